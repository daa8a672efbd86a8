/** Promises 17 to 21: how far measures lean, what is right, shufflings of one row and of all, streaks. */
final class AtLeans {
    private static final int NONE = HotHand.NONE;
    private static final long NO = Edge.NO;
    private static final long MOST_WAYS = 4_000_000_000_000_000_000L;

    private AtLeans() {
    }

    static void run() {
        lean();
        right();
        rightRefused();
        shuffled();
        shuffle();
        together();
        togetherByTurns();
        togetherAtItsLimit();
        streak();
    }

    private static void leanOf(String measure, int n, int p, long upper, long lower) {
        HotHand x = new HotHand();
        Due.measure(x, measure);
        Due.due("lean of " + measure + ", " + n + " by " + p, x.lean(0, n, p, 0), x.lean(0, n, p, 1), upper, lower);
    }

    private static void lean() {
        Doc.at(Doc.TERMS, "LEAN for n THROWS (1 to 12) by p tenths (1 to 9): of all rows of n that have a VALUE the mean,"
                + " each row as likely as by p tenths for each HIT alone.");
        leanOf("share", 1, 1, 1, 10);
        leanOf("share", 1, 9, 9, 10);
        leanOf("hits", 12, 1, 6, 5);
        leanOf("hits", 12, 9, 54, 5);
        leanOf("runs", 1, 5, 1, 1);
        // Of HH, HM, MH, MM by 2 tenths those with a HIT first: 4 and 16.
        leanOf("after hit 1", 2, 2, 1, 5);
        // HHH 1, HHM 1/2, HMH 0, HMM 0, MHH 1, MHM 0: alike by 5 tenths, else 8, 32, 32, 128, 32, 128.
        leanOf("after hit 1", 3, 5, 5, 12);
        // 8 + 32 / 2 + 32 of 360.
        leanOf("after hit 1", 3, 2, 7, 45);
        leanOf("after hit 1", 1, 5, NO, NO);
        leanOf("after hit 5", 5, 5, NO, NO);
        leanOf("after hit 5", 6, 7, 7, 10);
        leanOf("after miss 5", 6, 7, 7, 10);
        leanOf("3 hits + 3 hits + 3 hits + 3 hits", 12, 9, 648, 5);
        leanOf("share - 3 hits - 3 hits - 3 hits", 12, 9, 9 - 972, 10);
        Doc.at(17, "LEAN, likewise as value().");
        HotHand x = new HotHand();
        Due.measure(x, "share");
        Due.measure(x, "after hit 2");
        Edge.of("measure", 0, 1, NO, m -> x.lean(m, 4, 5, 0));
        Edge.of("n", 1, 12, NO, n -> x.lean(0, n, 5, 0));
        Edge.of("p", 1, 9, NO, p -> x.lean(0, 4, p, 0));
        Edge.of("what", 0, 1, NO, what -> x.lean(0, 4, 5, what));
        Due.due("no row of 2 has one", x.lean(1, 2, 5, 0), x.lean(1, 2, 5, 1), NO, NO);
        Due.due("rows of 3 have", x.lean(1, 3, 5, 0), x.lean(1, 3, 5, 1), 1, 2);
    }

    private static HotHand rightOf(String letters, String measure) {
        HotHand x = Due.with(1);
        Due.row(x, 0, letters);
        Due.measure(x, measure);
        return x;
    }

    private static void isRight(String letters, String measure, int p, long upper, long lower) {
        HotHand x = rightOf(letters, measure);
        Due.due("right of " + letters + ", " + measure + " by " + p, x.right(0, 0, p, 0), x.right(0, 0, p, 1), upper, lower);
    }

    private static void right() {
        Doc.at(Doc.TERMS, "RIGHT of a ROW (of 1 to 12): its VALUE less that LEAN for as many THROWS.");
        isRight("H", "share", 1, 9, 10);
        isRight("M", "share", 9, -9, 10);
        isRight("HHM", "after hit 1", 5, 1, 12);
        isRight("HMH", "after hit 1", 5, -5, 12);
        isRight("HM", "hits", 5, 0, 1);
        isRight("H".repeat(12), "hits", 1, 54, 5);
        isRight("H".repeat(12), "3 hits + 3 hits + 3 hits + 3 hits", 1, 648, 5);
        isRight("M".repeat(12), "3 hits + 3 hits + 3 hits + 3 hits", 9, -648, 5);
        isRight("H".repeat(13), "hits", 1, NO, NO);
        isRight("", "hits", 1, NO, NO);
    }

    private static void rightRefused() {
        Doc.at(18, "RIGHT, likewise as value().");
        for (int length = 0; length <= 24; length++) {
            HotHand x = rightOf("H".repeat(length), "share");
            Due.due("of " + length, x.right(0, 0, 5, 0), length >= 1 && length <= 12 ? 1 : NO);
            Due.due("of " + length, x.right(0, 0, 5, 1), length >= 1 && length <= 12 ? 2 : NO);
        }
        isRight("MH", "after hit 1", 5, NO, NO);
        HotHand x = Due.with(1);
        Due.row(x, 0, "HM");
        Due.row(x, 0, "HH");
        Due.measure(x, "hits");
        Due.measure(x, "runs");
        Edge.of("row", 0, 1, NO, row -> x.right(row, 0, 5, 0));
        Edge.of("measure", 0, 1, NO, m -> x.right(0, m, 5, 0));
        Edge.of("p", 1, 9, NO, p -> x.right(0, 0, p, 0));
        Edge.of("what", 0, 1, NO, what -> x.right(0, 0, 5, what));
    }

    private static void shuffleOf(String letters, String measure, long least, long all) {
        HotHand x = rightOf(letters, measure);
        Due.due(letters + " shuffled by " + measure, x.shuffle(0, 0, 0), x.shuffle(0, 0, 1), least, all);
    }

    private static void shuffled() {
        Doc.at(Doc.TERMS, "SHUFFLED (a ROW of at most 16 that has a VALUE): of all orders of its HITS and misses that have"
                + " a VALUE how many have at least its own.");
        shuffleOf("H", "hits", 1, 1);
        shuffleOf("M", "hits", 1, 1);
        shuffleOf("HHMM", "pairs hit hit", 3, 6);
        shuffleOf("HMHM", "pairs hit hit", 6, 6);
        // First at the fourth place: MMMH alone; MH has no value, so HM is one of one.
        shuffleOf("MMMH", "first hit", 1, 4);
        shuffleOf("MMHM", "first hit", 2, 4);
        shuffleOf("HM", "after hit 1", 1, 1);
        shuffleOf("MH", "after hit 1", NONE, NONE);
        shuffleOf("HHMM", "hits - pairs hit hit", 6, 6);
        shuffleOf("HMMH", "hits - pairs hit hit", 3, 6);
        shuffleOf("H".repeat(8) + "M".repeat(8), "pairs hit hit", 9, 12870);
        shuffleOf("HM".repeat(8), "runs", 2, 12870);
        shuffleOf("H".repeat(16), "hits", 1, 1);
        shuffleOf("M".repeat(16), "hits", 1, 1);
        shuffleOf("M".repeat(15) + "H", "first hit", 1, 16);
        shuffleOf("H".repeat(15) + "M", "first miss", 1, 16);
        shuffleOf("M" + "H".repeat(15), "first miss", 16, 16);
        shuffleOf("M" + "H".repeat(15), "longest hit", 2, 16);
    }

    private static void shuffle() {
        Doc.at(19, "SHUFFLED: how many at least (what 0), of how many (1).");
        shuffleOf("HHM", "pairs hit hit", 2, 3);
        shuffleOf("HMH", "pairs hit hit", 3, 3);
        // VALUES below 0: of HMH -7, of HHM and MHH -4.
        shuffleOf("HMH", "hits - 3 runs", 3, 3);
        shuffleOf("MHH", "hits - 3 runs", 2, 3);
        Doc.at(19, "NONE: none such, no VALUE.");
        for (int length = 0; length <= 24; length++) {
            HotHand x = rightOf("H".repeat(length), "share");
            Due.due("of " + length, x.shuffle(0, 0, 0), length >= 1 && length <= 16 ? 1 : NONE);
            Due.due("of " + length, x.shuffle(0, 0, 1), length >= 1 && length <= 16 ? 1 : NONE);
        }
        shuffleOf("HHHHH", "after hit 5", NONE, NONE);
        shuffleOf("HHHHHH", "after hit 5", 1, 1);
        HotHand x = Due.with(1);
        Due.row(x, 0, "HM");
        Due.row(x, 0, "HH");
        Due.measure(x, "hits");
        Due.measure(x, "runs");
        Edge.of("row", 0, 1, NONE, row -> x.shuffle(row, 0, 0));
        Edge.of("measure", 0, 1, NONE, m -> x.shuffle(0, m, 0));
        Edge.of("what", 0, 1, NONE, what -> x.shuffle(0, 0, what));
    }

    private static void togetherOf(String[] rows, long least, long all, long pairs) {
        HotHand x = Due.with(2);
        for (String row : rows) {
            Due.row(x, 1, row);
        }
        // Those of another one don't count.
        Due.row(x, 0, "HHMHH");
        String name = String.join(" ", rows);
        Due.due(name + " together: at least", x.together(1, 0), least);
        Due.due(name + " together: all", x.together(1, 1), all);
        Due.due(name + " together: pairs", x.together(1, 2), pairs);
    }

    private static String[] rows(String... letters) {
        return letters;
    }

    private static void together() {
        Doc.at(Doc.TERMS, "TOGETHER: of all ROWS of a THROWER, each SHUFFLED for itself, by pairs of HITS in all: how many"
                + " ways have at least as many, of how many (not told above 4 * 10^18 ways).");
        togetherOf(rows(), 1, 1, 0);
        togetherOf(rows(""), 1, 1, 0);
        togetherOf(rows("H"), 1, 1, 0);
        togetherOf(rows("MMM"), 1, 1, 0);
        togetherOf(rows("HHH"), 1, 1, 2);
        togetherOf(rows("HHM"), 2, 3, 1);
        togetherOf(rows("HMH"), 3, 3, 0);
        // 2 of 3 have a pair, 3 of 6: both at once 6, one at least 6 + 6 + 3.
        togetherOf(rows("HHM", "HHMM"), 6, 18, 2);
        togetherOf(rows("HHM", "HMHM"), 15, 18, 1);
        togetherOf(rows("HMH", "HHMM"), 15, 18, 1);
        togetherOf(rows("HMH", "HMHM"), 18, 18, 0);
        // A pair isn't made by two rows.
        togetherOf(rows("MH", "HM"), 4, 4, 0);
        togetherOf(rows("H".repeat(12) + "M".repeat(12)), 13, 2704156, 11);
        togetherOf(rows("HM".repeat(12)), 2704156, 2704156, 0);
        togetherOf(rows("H" + "M".repeat(23), "H".repeat(23) + "M"), 24 * 2, 24 * 24, 22);
    }

    /** One object is asked of several throwers: nothing of one is left in another one's ways. */
    private static void togetherByTurns() {
        HotHand x = Due.with(3);
        Due.law(x, 0, "hit 100;");
        for (int i = 0; i < 58; i++) {
            x.row(0);
            x.deal(i, 24);
        }
        Due.row(x, 1, "HHHMM");
        Due.row(x, 2, "HMHM");
        for (int i = 0; i < 2; i++) {
            Due.due("all HITS: at least", x.together(0, 0), 1);
            Due.due("all HITS: all", x.together(0, 1), 1);
            Due.due("all HITS: pairs", x.together(0, 2), 58 * 23);
            Due.due("3 of 10", x.together(1, 0), 3);
            Due.due("6 of 6", x.together(2, 0), 6);
        }
        HotHand y = Due.with(1);
        Due.law(y, 0, "hit 100;");
        for (int i = 0; i < 60; i++) {
            y.row(0);
            y.deal(i, 24);
        }
        Due.due("the most pairs", y.together(0, 2), 60 * 23);
        Due.due("the most pairs: at least", y.together(0, 0), 1);
    }

    /** Rows of one HIT, each with as many orders as throws. */
    private static HotHand ofOrders(int... lengths) {
        HotHand x = Due.with(1);
        for (int length : lengths) {
            int row = x.row(0);
            for (int i = 0; i < length; i++) {
                x.thrown(row, i == length - 1, 0, 0);
            }
        }
        return x;
    }

    private static void togetherAtItsLimit() {
        HotHand most = ofOrders(20, 20, 10, 10, 10, 10, 10, 10, 10, 10, 10, 10, 10, 10, 10, 10, 10, 10);
        Due.due("just 4 * 10^18 ways", most.together(0, 1), MOST_WAYS);
        Due.due("at least", most.together(0, 0), MOST_WAYS);
        Due.due("pairs", most.together(0, 2), 0);
        // 4,000,011,124,741,632,000 ways.
        int[] lengths = {13, 13, 11, 21, 21, 21, 21, 21, 21, 14, 14, 20, 20, 20, 16};
        HotHand above = ofOrders(lengths);
        for (int what = 0; what <= 2; what++) {
            Due.due("just above them", above.together(0, what), NONE);
        }
        Doc.at(20, "TOGETHER: how many at least (what 0), of how many (1), the pairs (2).");
        togetherOf(rows("HHM", "HMM"), 6, 9, 1);
        Doc.at(20, "NONE: none such, not told.");
        Edge.of("thrower", 0, 2, NONE, t -> Due.with(3).together(t, 0));
        Edge.of("what", 0, 2, NONE, what -> Due.with(1).together(0, what));
        Due.due("told up to 4 * 10^18", most.together(0, 1), MOST_WAYS);
        Due.due("not above", above.together(0, 1), NONE);
        HotHand x = Due.with(2);
        Due.law(x, 0, "hit 100 if place < 12; hit 0;");
        for (int i = 0; i < 60; i++) {
            x.row(0);
            x.deal(i, 24);
            // 2704156 ways each: two are told, three and all more aren't, however often a long wraps around.
            Due.due("of " + (i + 1) + " rows", x.together(0, 2), i < 2 ? 11 * (i + 1) : NONE);
        }
        Due.due("another one's are told", x.together(1, 1), 1);
    }

    private static void streak() {
        HotHand x = new HotHand();
        Doc.at(Doc.TERMS, "STREAK: of all rows of n (1 to 60) how many have k HITS one behind the other.");
        Due.due("one of one", x.streak(1, 1), 1);
        Due.due("one of two", x.streak(2, 1), 3);
        Due.due("two of two", x.streak(2, 2), 1);
        Due.due("two of three", x.streak(3, 2), 3);
        Due.due("two of four", x.streak(4, 2), 8);
        Due.due("three of six", x.streak(6, 3), 20);
        Due.due("one of 60", x.streak(60, 1), (1L << 60) - 1);
        // Without two one behind the other: the 62nd of Fibonacci's.
        Due.due("two of 60", x.streak(60, 2), (1L << 60) - 4_052_739_537_881L);
        Due.due("30 of 60", x.streak(60, 30), 32L << 29);
        Due.due("59 of 60", x.streak(60, 59), 3);
        Due.due("60 of 60", x.streak(60, 60), 1);
        Due.due("60 of 59", x.streak(59, 60), 0);
        Due.due("two of one", x.streak(1, 2), 0);
        Doc.at(21, "STREAK. NONE: none such (k 1 to 60).");
        Edge.of("n", 1, 60, NONE, n -> x.streak(n, 1));
        Edge.of("k", 1, 60, NONE, k -> x.streak(60, k));
        Edge.of("k above n", 1, 60, NONE, k -> x.streak(1, k));
    }
}
