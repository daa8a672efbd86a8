import java.io.IOException;
import java.nio.file.Files;
import java.nio.file.Path;
import java.util.ArrayDeque;
import java.util.Deque;
import java.util.List;
import java.util.Set;
import java.util.TreeSet;
import java.util.regex.Matcher;
import java.util.regex.Pattern;
import java.util.stream.Stream;

/** README.md is true of the class and of the tests: its example answers as it says, its table names every test. */
public final class ReadmeTest {
    private static final Pattern ANSWER = Pattern.compile("(.*?;) *// (-?\\d+|true|false)\\b.*");

    private static Deque<String> lines = new ArrayDeque<>();

    public static void main(String[] args) throws IOException {
        String readme = Files.readString(Path.of("README.md"));
        lines = new ArrayDeque<>(exampleOf(readme));
        example();
        Due.due("lines of the example left over: " + lines, lines.isEmpty(), true);
        names(readme);
        Due.end("ReadmeTest");
    }

    private static List<String> exampleOf(String readme) {
        int from = readme.indexOf("```java\n") + 8;
        return readme.substring(from, readme.indexOf("```", from)).lines().filter(l -> !l.startsWith("//")).toList();
    }

    /** The next line of the example is this call, and the number behind it what it answered. */
    private static void says(String call, long got) {
        String line = lines.isEmpty() ? "" : lines.remove();
        Matcher m = ANSWER.matcher(line);
        boolean told = m.matches();
        Due.due("the example's line \"" + line + "\" is " + call, told && m.group(1).equals(call), true);
        if (told) {
            String answer = m.group(2).replace("true", "1").replace("false", "0");
            Due.due(call, got, Long.parseLong(answer));
        }
    }

    private static void says(String call, boolean got) {
        says(call, got ? 1 : 0);
    }

    private static void example() {
        HotHand x = new HotHand();
        Due.due("the example begins", "HotHand x = new HotHand();".equals(lines.poll()), true);
        int t = x.thrower();
        says("int t = x.thrower();", t);
        says("x.feed(0x68697420, 0x36303b20, 0x20202020, 0x20202020, 0x20202020);",
                x.feed(0x68697420, 0x36303b20, 0x20202020, 0x20202020, 0x20202020));
        says("x.law(t, 7);", x.law(t, 7));
        int row = x.row(t);
        says("int row = x.row(t);", row);
        says("x.next(row, 2);", x.next(row, 2));
        says("x.seed(5);", x.seed(5));
        says("x.deal(row, 12);", x.deal(row, 12));
        says("x.told(row, HotHand.NONE, 1);", x.told(row, HotHand.NONE, 1));
        says("x.feed(0x61667465, 0x72206869, 0x74203120, 0x20202020, 0x20202020);",
                x.feed(0x61667465, 0x72206869, 0x74203120, 0x20202020, 0x20202020));
        says("x.measure(11);", x.measure(11));
        says("x.value(row, 0, 0);", x.value(row, 0, 0));
        says("x.value(row, 0, 1);", x.value(row, 0, 1));
        says("x.lean(0, 4, 5, 0);", x.lean(0, 4, 5, 0));
        says("x.lean(0, 4, 5, 1);", x.lean(0, 4, 5, 1));
        says("x.together(t, 0);", x.together(t, 0));
        says("x.together(t, 1);", x.together(t, 1));
        says("x.say(t, 4, 5);", x.say(t, 4, 5));
        says("x.image();", x.image());
        says("x.row(t);", x.row(t));
        says("x.back(0);", x.back(0));
        says("x.count(1);", x.count(1));
        says("x.row(7);", x.row(7));
        says("x.feed(0x68697421, 0x20202020, 0x20202020, 0x20202020, 0x20202020);",
                x.feed(0x68697421, 0x20202020, 0x20202020, 0x20202020, 0x20202020));
        says("x.law(t, 4);", x.law(t, 4));
        says("x.fault();", x.fault());
    }

    /** The table has a row, or a part of one, for each test there is, and for none that isn't there. */
    private static void names(String readme) throws IOException {
        Set<String> told = new TreeSet<>();
        readme.lines().filter(l -> l.matches("\\| (- )?[A-Z].*")).forEach(l -> {
            for (String name : l.split("\\|")[1].replace("-", "").split(",")) {
                told.add(name.trim());
            }
        });
        Set<String> there = new TreeSet<>();
        try (Stream<Path> files = Files.list(Path.of("src/test/java"))) {
            files.map(p -> p.getFileName().toString()).filter(n -> n.matches("At.*\\.java|.*Test\\.java"))
                    .forEach(n -> there.add(n.replace(".java", "")));
        }
        Due.due("tests named " + told + ", there are " + there, told.equals(there), true);
    }
}
