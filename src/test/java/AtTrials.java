/** Promises 22, 23, 24, 40: trials, how many throws they need, how strong a state must be, what may be said. */
final class AtTrials {
    private static final int NONE = HotHand.NONE;

    private AtTrials() {
    }

    static void run() {
        trial();
        line();
        power();
        need();
        strong();
        sayHot();
        sayMissed();
        sayByItsThrows();
        sayRefused();
    }

    private static void powerOf(int n, int p, int e, int w, long upper, long lower) {
        HotHand x = new HotHand();
        String call = "power(" + n + ", " + p + ", " + e + ", " + w + ")";
        Due.due(call, x.power(n, p, e, w, 1), x.power(n, p, e, w, 2), upper, lower);
    }

    private static void lineOf(int n, int p, int w, int due) {
        HotHand x = new HotHand();
        for (int e = 0; e <= 9; e += 3) {
            Due.due("line of " + n + " by " + p + " at " + w + " with " + e, x.power(n, p, e, w, 0), due);
        }
    }

    private static void trial() {
        Doc.at(Doc.TERMS, "TRIAL of n THROWS (2 to 12) by p tenths (1 to 9) and e tenths (0 to 9): the first is a HIT by p,"
                + " each other one by p and e behind a HIT, by p less e behind a miss (held to 0 to 10 tenths).");
        HotHand x = new HotHand();
        Edge.of("n", 2, 12, NONE, n -> x.power(n, 5, 3, 25, 1));
        Edge.of("p", 1, 9, NONE, p -> x.power(2, p, 3, 25, 1));
        Edge.of("e", 0, 9, NONE, e -> x.power(2, 5, e, 25, 1));
        // HH by 5 and 5, 8, 10 tenths.
        powerOf(2, 5, 0, 25, 1, 4);
        powerOf(2, 5, 3, 25, 2, 5);
        powerOf(2, 5, 5, 25, 1, 2);
        powerOf(2, 5, 6, 25, 1, 2);
        powerOf(2, 5, 9, 25, 1, 2);
        powerOf(2, 9, 1, 81, 9, 10);
        powerOf(2, 9, 9, 81, 9, 10);
        powerOf(2, 1, 9, 1, 1, 10);
        powerOf(2, 1, 8, 1, 9, 100);
        // One pair at least of three: HHH, HHM and MHH, the last by p less e: 5 * 7 * 10 + 5 * 3 * 7.
        powerOf(3, 5, 2, 38, 91, 200);
        // Behind a miss 1, 0 and 0 tenths: 5 * 9 * 10 + 5 * 1 * 9; 5 * 10 * 10.
        powerOf(3, 5, 4, 38, 99, 200);
        powerOf(3, 5, 5, 38, 1, 2);
        powerOf(3, 5, 6, 38, 1, 2);
        // A HIT by 1 tenth, then all by 10 of 10; behind a miss none.
        for (int n = 2; n <= 12; n++) {
            powerOf(n, 1, 9, 1, 1, 10);
        }
    }

    private static void line() {
        Doc.at(Doc.TERMS, "Its LINE at w hundredths (1 to 99): the least c so that c pairs of HITS or more have a chance of"
                + " at most w hundredths with e 0 (n at most).");
        HotHand x = new HotHand();
        Edge.of("w", 1, 99, NONE, w -> x.power(2, 5, 3, w, 0));
        lineOf(2, 5, 24, 2);
        lineOf(2, 5, 25, 1);
        lineOf(2, 5, 99, 1);
        lineOf(2, 1, 1, 1);
        lineOf(2, 9, 80, 2);
        lineOf(2, 9, 81, 1);
        lineOf(3, 5, 12, 3);
        lineOf(3, 5, 13, 2);
        lineOf(3, 5, 37, 2);
        lineOf(3, 5, 38, 1);
        lineOf(3, 5, 99, 1);
        // 2 tenths thrice: 8 thousandths; 1 tenth thrice: 1.
        lineOf(3, 2, 1, 2);
        lineOf(3, 3, 2, 3);
        lineOf(3, 3, 3, 2);
        lineOf(12, 9, 1, 12);
        lineOf(12, 9, 28, 12);
        // 9 tenths 12 times: 28.2 hundredths.
        lineOf(12, 9, 29, 11);
    }

    private static void power() {
        Doc.at(Doc.TERMS, "POWER: the chance of so many with e.");
        powerOf(2, 5, 3, 25, 2, 5);
        powerOf(2, 5, 3, 24, 0, 1);
        // Two pairs of three: HHH.
        powerOf(3, 5, 3, 13, 8, 25);
        powerOf(12, 9, 9, 28, 0, 1);
        powerOf(12, 9, 9, 29, 9, 10);
        Doc.at(22, "LINE (what 0), POWER's upper number (1), lower one (2), in lowest terms.");
        HotHand x = new HotHand();
        Due.due("line", x.power(3, 5, 3, 13, 0), 2);
        Due.due("upper", x.power(3, 5, 3, 13, 1), 8);
        Due.due("lower", x.power(3, 5, 3, 13, 2), 25);
        Due.due("0 by 1", x.power(2, 5, 3, 24, 1), x.power(2, 5, 3, 24, 2), 0, 1);
        Doc.at(22, "NONE: none such.");
        Edge.of("n", 2, 12, NONE, n -> x.power(n, 5, 3, 25, 0));
        Edge.of("p", 1, 9, NONE, p -> x.power(2, p, 3, 25, 0));
        Edge.of("e", 0, 9, NONE, e -> x.power(2, 5, e, 25, 0));
        Edge.of("w", 1, 99, NONE, w -> x.power(12, 5, 3, w, 2));
        Edge.of("what", 0, 2, NONE, what -> x.power(2, 5, 3, 25, what));
    }

    private static void need() {
        HotHand x = new HotHand();
        Doc.at(Doc.TERMS, "NEED: the least n with a POWER of v hundredths at least;");
        Due.due("just 40 of two", x.need(5, 3, 25, 40), 2);
        Due.due("41: not of two", x.need(5, 3, 25, 41) > 2, true);
        // At 24 nothing of two is seen; of three HHH, by 32 hundredths.
        Due.due("32 of three", x.need(5, 3, 24, 32), 3);
        Due.due("33: not of three", x.need(5, 3, 24, 33) > 3, true);
        Due.due("nothing of two", x.need(5, 3, 24, 0), 2);
        Due.due("something", x.need(5, 3, 24, 1), 3);
        // 2, 5 and 5 tenths are just 5 hundredths; 2 and 5 are 10, but not seen at 3.
        Due.due("just 5", x.need(2, 3, 3, 5), 3);
        Due.due("just 10", x.need(2, 3, 4, 10), 2);
        Doc.at(23, "NEED. NONE: more than 12, none such (v 0 to 100).");
        // Of 12 it's 223 by 250, of fewer less than 89 hundredths.
        powerOf(12, 7, 3, 10, 223, 250);
        Due.due("just 12", x.need(7, 3, 10, 89), 12);
        Due.due("more than 12", x.need(7, 3, 10, 90), NONE);
        // Of 13 it would be 30 hundredths, and 50.
        Due.due("more than 12, which is not told", x.need(5, 3, 5, 26), NONE);
        Due.due("more than 12, with another line", x.need(5, 3, 25, 48), NONE);
        Due.due("never sure", x.need(5, 9, 25, 100), NONE);
        Edge.of("p", 1, 9, NONE, p -> x.need(p, 3, 25, 0));
        Edge.of("e", 0, 9, NONE, e -> x.need(5, e, 25, 0));
        Edge.of("w", 1, 99, NONE, w -> x.need(5, 3, w, 0));
        Due.due("v 0", x.need(5, 3, 25, 0), 2);
        for (int v : new int[] {-1, 101, Integer.MIN_VALUE, Integer.MAX_VALUE}) {
            Due.due("v " + v, x.need(5, 3, 25, v), NONE);
        }
    }

    private static void strong() {
        HotHand x = new HotHand();
        Doc.at(Doc.TERMS, "STRONG: the least e from 1 on likewise.");
        Due.due("from 1 on", x.strong(2, 5, 25, 0), 1);
        Due.due("just 30 hundredths", x.strong(2, 5, 25, 30), 1);
        Due.due("31", x.strong(2, 5, 25, 31), 2);
        Due.due("just 40", x.strong(2, 5, 25, 40), 3);
        Due.due("41", x.strong(2, 5, 25, 41), 4);
        Doc.at(24, "STRONG. NONE: none up to 9, none such.");
        Due.due("just 9 tenths", x.strong(2, 1, 1, 10), 9);
        Due.due("none", x.strong(2, 1, 1, 11), NONE);
        Due.due("8 tenths", x.strong(2, 1, 1, 9), 8);
        Due.due("nothing is seen", x.strong(2, 5, 24, 1), NONE);
        Due.due("nothing is enough", x.strong(2, 5, 24, 0), 1);
        Edge.of("n", 2, 12, NONE, n -> x.strong(n, 5, 25, 1));
        Edge.of("p", 1, 9, NONE, p -> x.strong(3, p, 25, 0));
        Edge.of("w", 1, 99, NONE, w -> x.strong(2, 5, w, 0));
        Due.due("v 0", x.strong(2, 5, 25, 0), 1);
        Due.due("v 100", x.strong(2, 9, 99, 100), NONE);
        for (int v : new int[] {-1, 101, Integer.MIN_VALUE, Integer.MAX_VALUE}) {
            Due.due("v " + v, x.strong(2, 5, 25, v), NONE);
        }
    }

    private static HotHand thrower(String... rows) {
        HotHand x = Due.with(1);
        for (String row : rows) {
            Due.row(x, 0, row);
        }
        return x;
    }

    private static void says(int e, int w, int due, String... rows) {
        Due.due("of " + String.join(" ", rows) + " with " + e + " at " + w, thrower(rows).say(0, e, w), due);
    }

    private static void sayHot() {
        Doc.at(40, "What may be said of a THROWER at w hundredths (1 to 99): 2: it's hot: TOGETHER at most w hundredths;");
        // 4 of 10 orders have a pair.
        says(1, 40, 2, "HHMMM");
        says(1, 39, 0, "HHMMM");
        // 4 of 20, twice: 16 of 400.
        says(1, 4, 2, "HHHMMM", "MMHHHM");
        says(1, 3, 0, "HHHMMM", "MMHHHM");
        // 175 of 210 orders, 246 of 252.
        says(1, 84, 2, "HHMHMHMMMM");
        Due.due("175 of 210 at 83", thrower("HHMHMHMMMM").say(0, 1, 83) == 2, false);
        says(1, 98, 2, "HHMHMHMHMM");
        Due.due("246 of 252 at 97", thrower("HHMHMHMHMM").say(0, 1, 97) == 2, false);
        for (int w = 80; w <= 99; w++) {
            Due.due("495 of 495 at " + w, thrower("HMHMHMHMMMMM").say(0, 1, w) == 2, false);
        }
        // 13 of 2704156, and one of one.
        says(1, 1, 2, "H".repeat(12) + "M".repeat(12));
        says(1, 99, 2, "HHMM");
        says(9, 99, 1, "HH");
        // 24^11 * 12 * 6 ways, half of them with a pair at least: w times these is beyond a long.
        String[] many = new String[13];
        java.util.Arrays.fill(many, "H" + "M".repeat(23));
        many[12] = "HHMM";
        says(1, 50, 2, many);
        says(1, 49, 0, many);
    }

    private static void sayMissed() {
        Doc.at(40, "1: it's not seen, but a state of e tenths (1 to 9) would have been,");
        Edge.of("e", 1, 9, NONE, e -> thrower("HM").say(0, e, 25));
        says(5, 25, 1, "HM");
        says(4, 25, 0, "HM");
        Doc.at(40, "at least every other time (POWER 50 hundredths at that LINE);");
        // HH by 5 and 10 tenths is just 50, by 5 and 9 it's 45; at 24 no line can be reached.
        says(5, 25, 1, "HM");
        says(9, 25, 1, "HM");
        says(4, 25, 0, "HM");
        says(5, 24, 0, "HM");
        // In a row of three it's 49.5 by 4 tenths more, by 5 it's 50.
        says(4, 38, 0, "HMH", "M");
        says(5, 38, 1, "HMH", "M");
        // HH by 6 tenths and 9 tenths is 54, and 8 tenths 48.
        says(3, 36, 1, "HM", "H");
        says(2, 36, 0, "HM", "H");
        Doc.at(40, "0: nothing.");
        says(1, 25, 0, "HM");
        says(9, 1, 0, "HM");
    }

    private static void sayByItsThrows() {
        Doc.at(40, "in a ROW as long as its longest (12 at most) by its HUNDREDTHS in tenths (cut, 1 to 9),");
        // By 6 tenths 1 more would be seen at 38 in a row of 12, but in none of 11 nor of 13; these rows have as few
        // pairs as their HITS can have, so that all orders have as many at least.
        String eleven = "HMHHMHHMHMH";
        String twelve = "HMHHMHHMHHMH";
        says(1, 38, 0, eleven);
        says(1, 38, 1, twelve);
        says(1, 38, 1, "HMHHMHHMHMHMH");
        says(1, 38, 1, "HMHHMHHMHHMHHMHHMHMHMHMH");
        says(1, 38, 0, "HM", eleven, "H");
        says(1, 38, 1, "HM", twelve, "H");
        tenths(59, 5);
        tenths(60, 6);
        tenths(69, 6);
        tenths(70, 7);
        tenths(9, 1);
        tenths(10, 1);
        tenths(0, 1);
        tenths(19, 1);
        tenths(20, 2);
        tenths(89, 8);
        tenths(90, 9);
        tenths(99, 9);
        tenths(100, 9);
    }

    /**
     * A thrower of so many hundredths, all of its rows of 2 at most and without shufflings, is spoken of by so many
     * tenths p: HH has p times p for nothing, and p times p and e.
     */
    private static void tenths(int hundredths, int p) {
        HotHand x = Due.with(1);
        int hits = hundredths;
        int misses = 100 - hundredths;
        // 60 rows hold 100 throws if those of two are alike: one way each.
        for (; hits >= 2; hits -= 2) {
            Due.row(x, 0, "HH");
        }
        for (; misses >= 2; misses -= 2) {
            Due.row(x, 0, "MM");
        }
        for (; hits > 0; hits--) {
            Due.row(x, 0, "H");
        }
        for (; misses > 0; misses--) {
            Due.row(x, 0, "M");
        }
        Due.due("hundredths", x.hundredths(0), hundredths);
        for (int e = 1; e <= 9; e++) {
            for (int w = 1; w <= 99; w += 14) {
                boolean line = p * p <= w;
                boolean seen = line && p * Math.min(10, p + e) >= 50;
                Due.due(hundredths + " hundredths with " + e + " at " + w, x.say(0, e, w), seen ? 1 : 0);
            }
        }
    }

    private static void sayRefused() {
        Doc.at(40, "NONE: none such, TOGETHER not told, no ROW of 2 THROWS.");
        Edge.of("thrower", 0, 0, NONE, t -> thrower("HM").say(t, 5, 25));
        Edge.of("e", 1, 9, NONE, e -> thrower("HM").say(0, e, 25));
        Edge.of("w", 1, 99, NONE, w -> thrower("HM").say(0, 5, w));
        says(5, 25, NONE);
        says(5, 25, NONE, "");
        says(5, 25, NONE, "H", "M");
        says(5, 25, 1, "H", "M", "HM");
        String half = "HM".repeat(12);
        says(1, 25, 0, half, half);
        says(1, 25, NONE, half, half, half);
    }
}
