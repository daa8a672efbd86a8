import java.io.IOException;
import java.lang.reflect.Constructor;
import java.lang.reflect.Field;
import java.lang.reflect.Method;
import java.lang.reflect.Modifier;
import java.nio.file.Files;
import java.nio.file.Path;
import java.util.ArrayList;
import java.util.Arrays;
import java.util.List;
import java.util.Set;
import java.util.TreeSet;
import java.util.regex.Matcher;
import java.util.regex.Pattern;

/** The rules of LANGUAGE.md that can be looked up in the compiled class and in the file's lines. */
public final class LanguageTest {
    private static final String FACE = "feed thrower law belief measure fault seed row thrown deal told next value mean "
            + "joined lean right shuffle together streak power need strong hards off chosen hundredths groups above "
            + "hidden bets odds give worlds foretold heat pooled season say image back count";

    // Of what rule 4 lists, what the class needs.
    private static final Set<String> LIBRARY = Set.of("Arrays.fill", "System.arraycopy", "Integer.bitCount",
            "Math.max", "Math.min", "Math.abs");
    private static final Pattern CALL = Pattern.compile("\\b(Arrays|System|Integer|Long|Math|String)\\.\\w+");

    public static void main(String[] args) throws IOException {
        face();
        classes();
        source();
        Due.end("LanguageTest");
    }

    private static void face() {
        Set<String> face = new TreeSet<>();
        for (Method m : HotHand.class.getDeclaredMethods()) {
            if (Modifier.isPublic(m.getModifiers())) {
                face.add(m.getName());
            } else {
                Due.due("a method that's neither public nor private: " + m, Modifier.isPrivate(m.getModifiers()), true);
            }
        }
        Due.due("the face " + face, face.equals(new TreeSet<>(Arrays.asList(FACE.split(" ")))), true);
        Due.due("as many methods as the document has", face.size(), 42);
        Due.due("final", Modifier.isFinal(HotHand.class.getModifiers()), true);
        for (Field f : HotHand.class.getDeclaredFields()) {
            boolean right = Modifier.isPrivate(f.getModifiers()) || f.getName().equals("NONE");
            Due.due("a field that isn't private: " + f, right, true);
        }
        Constructor<?>[] made = HotHand.class.getDeclaredConstructors();
        Due.due("one constructor", made.length, 1);
        Due.due("without parameters", made[0].getParameterCount(), 0);
    }

    private static void classes() {
        List<Class<?>> all = new ArrayList<>(Arrays.asList(HotHand.class.getDeclaredClasses()));
        all.add(HotHand.class);
        Due.due("at most twelve classes", all.size() <= 12, true);
        Set<String> face = new TreeSet<>(Arrays.asList(FACE.split(" ")));
        for (Class<?> c : all) {
            Due.due("static: " + c, c == HotHand.class || Modifier.isStatic(c.getModifiers()), true);
            int fields = 0;
            for (Field f : c.getDeclaredFields()) {
                boolean isStatic = Modifier.isStatic(f.getModifiers());
                fields += isStatic ? 0 : 1;
                Due.due("a static field is final: " + f, !isStatic || Modifier.isFinal(f.getModifiers()), true);
                Due.due("no field made by the compiler: " + f, f.isSynthetic(), false);
            }
            Due.due("some twenty fields: " + c, fields <= 20, true);
            for (Method m : c.getDeclaredMethods()) {
                Due.due("seven parameters: " + m, m.getParameterCount() <= 7, true);
                Due.due("no method made by the compiler: " + m, m.isSynthetic(), false);
                boolean taken = face.contains(m.getName()) && !Modifier.isPublic(m.getModifiers());
                Due.due("a name of the face: " + m, taken, false);
            }
        }
    }

    private static void source() throws IOException {
        List<String> lines = Files.readAllLines(Path.of("src/main/java/HotHand.java"));
        int from = 0;
        for (int i = 0; i < lines.size(); i++) {
            String line = lines.get(i);
            String code = line.replaceAll("\"[^\"]*\"", "\"\"").replaceAll("//.*|^\\s*/?\\*.*", "");
            boolean bad = code.matches(".*\\b(throw|throws|try|catch|synchronized|assert|float|double|package|enum)\\b.*")
                    || code.contains("->") || code.contains("::") || code.matches(".*\"\\s*\\+.*|.*\\+\\s*\".*");
            Due.due("line " + (i + 1) + ": " + line, bad, false);
            Matcher call = CALL.matcher(line.startsWith("import ") ? "" : code);
            while (call.find()) {
                Due.due("in the library, line " + (i + 1) + ": " + call.group(), LIBRARY.contains(call.group()), true);
            }
            Due.due("only one import: " + line, !line.startsWith("import ") || line.equals("import java.util.Arrays;"), true);
            Due.due("signs 1 to 127: " + line, line.chars().allMatch(c -> c < 128), true);
            if (code.matches("    (    )?(private |public |static |final )*[A-Za-z\\[\\]]+ ?\\w*\\(.*\\{")) {
                from = i;
            }
            if (code.matches("    (    )?\\}")) {
                Due.due("a method of some sixty lines at " + (i + 1), i - from <= 60 || code.length() == 5, true);
            }
        }
    }
}
