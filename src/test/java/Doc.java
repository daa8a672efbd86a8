import java.io.IOException;
import java.io.UncheckedIOException;
import java.nio.file.Files;
import java.nio.file.Path;
import java.util.ArrayList;
import java.util.BitSet;
import java.util.List;
import java.util.Map;
import java.util.TreeMap;

/** The document's sentences, by the promise they stand in: tests name them, and none may be left out; and its face. */
final class Doc {
    static final int TERMS = 0;
    static final int WHAT_IT_IS = -1;
    private static final int PROMISES = 43;

    private static final Map<Integer, String> TEXTS = read();
    private static final Map<Integer, BitSet> QUOTED = new TreeMap<>();
    private static String open = "";
    private static int askedBefore = 0;

    private Doc() {
    }

    /** The answers from here on are due by this sentence, as it stands in the document. */
    static void at(int promise, String sentence) {
        close();
        String text = TEXTS.getOrDefault(promise, "");
        open = nameOf(promise) + ", \"" + sentence + "\"";
        Due.under(open);
        int place = text.indexOf(sentence);
        Due.due("the document says so", place >= 0, true);
        for (; place >= 0; place = text.indexOf(sentence, place + 1)) {
            QUOTED.computeIfAbsent(promise, k -> new BitSet()).set(place, place + sentence.length());
        }
        askedBefore = Due.asked();
    }

    /** Each sentence of what it is, of the terms and of every promise must have been named. */
    static void end() {
        close();
        Due.under("");
        Due.due("promises in the document", TEXTS.keySet().stream().filter(p -> p > 0).count(), PROMISES);
        for (Map.Entry<Integer, String> e : TEXTS.entrySet()) {
            String left = unquoted(e.getValue(), QUOTED.getOrDefault(e.getKey(), new BitSet()));
            Due.due(nameOf(e.getKey()) + " without a test: " + left, left.isEmpty(), true);
        }
    }

    private static void close() {
        if (!open.isEmpty()) {
            Due.due("there's an answer to it", Due.asked() > askedBefore, true);
        }
        open = "";
    }

    private static String nameOf(int promise) {
        return promise > 0 ? "promise " + promise : promise == TERMS ? "terms" : "what it is";
    }

    private static String unquoted(String text, BitSet quoted) {
        StringBuilder left = new StringBuilder();
        for (int i = 0; i < text.length(); i++) {
            left.append(quoted.get(i) ? ' ' : text.charAt(i));
        }
        return left.toString().trim().replaceAll(" +", " ");
    }

    /** The lines of the public face, as they stand, without blanks around them. */
    static List<String> face() {
        List<String> lines = new ArrayList<>();
        for (String section : sections()) {
            if (section.startsWith("The public face")) {
                for (String line : section.split("\n")) {
                    if (line.trim().startsWith("public ")) {
                        lines.add(line.trim());
                    }
                }
            }
        }
        return lines;
    }

    private static String[] sections() {
        try {
            return Files.readString(Path.of("../shared/DOC.md")).split("(?m)^## ");
        } catch (IOException e) {
            throw new UncheckedIOException(e);
        }
    }

    private static Map<Integer, String> read() {
        Map<Integer, String> texts = new TreeMap<>();
        for (String section : sections()) {
            int end = section.indexOf('\n');
            String title = end < 0 ? section : section.substring(0, end);
            // What sets the text off isn't part of a sentence; nor is a method's head.
            String body = section.substring(Math.max(0, end)).replaceAll("```(text)?|==== \\d\\.", " ")
                    .replaceAll("\\s+", " ").trim();
            if (title.startsWith("Promise ")) {
                int number = Integer.parseInt(title.substring(8, title.indexOf(':')));
                texts.put(number, body.replaceFirst("^`[^`]*`: ", ""));
            } else if (title.equals("Terms")) {
                texts.put(TERMS, body);
            } else if (title.equals("What it is")) {
                texts.put(WHAT_IT_IS, body);
            }
        }
        return texts;
    }
}
