import java.nio.charset.StandardCharsets;

/** What every test of the project uses: answers that are due, and texts laid on the tape. */
final class Due {
    private static int asked = 0;
    private static int wrong = 0;
    private static String heading = "";

    private Due() {
    }

    /** What the answers from here on are due by: it's told with each that is wrong. */
    static void under(String words) {
        heading = words.isEmpty() ? "" : words + ": ";
    }

    /** How many answers were asked for up to now. */
    static int asked() {
        return asked;
    }

    static void due(String call, long got, long want) {
        asked++;
        if (got != want) {
            wrong++;
            if (wrong <= 50) {
                System.out.println(heading + call + " answered " + got + ", due is " + want);
            }
        }
    }

    static void due(String call, boolean got, boolean want) {
        due(call, got ? 1 : 0, want ? 1 : 0);
    }

    /** A fraction that comes in two calls. */
    static void due(String call, long upper, long lower, long wantUpper, long wantLower) {
        due(call + " (upper)", upper, wantUpper);
        due(call + " (lower)", lower, wantLower);
    }

    /** Lays a text behind what the tape holds, filled up with blanks: the text's length. */
    static int feed(HotHand x, String text) {
        byte[] bytes = text.getBytes(StandardCharsets.ISO_8859_1);
        int[] five = new int[5];
        for (int from = 0; from < bytes.length; from += 20) {
            for (int i = 0; i < 5; i++) {
                five[i] = 0;
                for (int k = from + 4 * i; k < from + 4 * i + 4; k++) {
                    five[i] = five[i] << 8 | (k < bytes.length ? bytes[k] & 255 : 32);
                }
            }
            x.feed(five[0], five[1], five[2], five[3], five[4]);
        }
        return bytes.length;
    }

    static int law(HotHand x, int thrower, String text) {
        return x.law(thrower, feed(x, text));
    }

    static int belief(HotHand x, int watcher, String text) {
        return x.belief(watcher, feed(x, text));
    }

    static int measure(HotHand x, String text) {
        return x.measure(feed(x, text));
    }

    /** A ROW whose THROWS are told by letters: H a HIT, all else a miss; HARD and GUARDS are 0. */
    static int row(HotHand x, int thrower, String letters) {
        int row = x.row(thrower);
        for (int i = 0; i < letters.length(); i++) {
            x.thrown(row, letters.charAt(i) == 'H', 0, 0);
        }
        return row;
    }

    /** A new object with so many THROWERS. */
    static HotHand with(int throwers) {
        HotHand x = new HotHand();
        for (int i = 0; i < throwers; i++) {
            x.thrower();
        }
        return x;
    }

    static void end(String test) {
        System.out.println(test + ": " + (asked - wrong) + " of " + asked + " answers as due");
        if (wrong != 0 || asked == 0) {
            System.exit(1);
        }
    }
}
