/** Promises 14 to 21: values, means, leans, shufflings, streaks. */
public final class MeasuresTest {
    private static final long NO = -1_000_000_000_000L;

    public static void main(String[] args) {
        value();
        valueEdges();
        mean();
        joined();
        lean();
        leanEdges();
        right();
        shuffle();
        shuffleEdges();
        together();
        togetherEdges();
        streak();
        Due.end("MeasuresTest");
    }

    private static void valueOf(String letters, String measure, long upper, long lower) {
        HotHand x = Due.with(1);
        Due.row(x, 0, letters);
        Due.measure(x, measure);
        Due.due(measure + " of " + letters, x.value(0, 0, 0), x.value(0, 0, 1), upper, lower);
    }

    private static void value() {
        String row = "HHMHMMH";
        valueOf(row, "share", 4, 7);
        valueOf(row, "after hit 1", 1, 3);
        valueOf(row, "after miss 1", 2, 3);
        valueOf(row, "after hit 2", 0, 1);
        valueOf(row, "after miss 2", 1, 1);
        valueOf(row, "after hit 3", NO, NO);
        valueOf(row, "runs", 5, 1);
        valueOf(row, "longest hit", 2, 1);
        valueOf(row, "longest miss", 2, 1);
        valueOf(row, "hits", 4, 1);
        valueOf(row, "pairs hit hit", 1, 1);
        valueOf(row, "pairs hit miss", 2, 1);
        valueOf(row, "pairs miss hit", 2, 1);
        valueOf(row, "pairs miss miss", 1, 1);
        valueOf(row, "first hit", 1, 1);
        valueOf(row, "first miss", 3, 1);
        valueOf(row, "2 hits - 3 share", 44, 7);
        valueOf(row, "after hit 1 - after miss 1", -1, 3);
        valueOf(row, "share - share", 0, 1);
        valueOf(row, "3 runs - 2 longest hit + share - first miss", 60, 7);
        valueOf(row, "runs + after hit 3", NO, NO);
        valueOf(row, "share + share + share - 3 share", 0, 1);
    }

    private static void valueEdges() {
        valueOf("", "hits", NO, NO);
        valueOf("", "first hit", NO, NO);
        valueOf("H", "runs", 1, 1);
        valueOf("H", "share", 1, 1);
        valueOf("M", "share", 0, 1);
        valueOf("M", "first hit", 0, 1);
        valueOf("M", "first miss", 1, 1);
        valueOf("M", "longest hit", 0, 1);
        valueOf("H", "after hit 1", NO, NO);
        valueOf("HH", "after hit 1", 1, 1);
        valueOf("HHHHHH", "after hit 5", 1, 1);
        valueOf("HHHHH", "after hit 5", NO, NO);
        valueOf("MMMMMM", "after miss 5", 0, 1);
        String full = "HMHHMHMMHHHMHMHMMMHHMHMH";
        valueOf(full, "runs", 17, 1);
        valueOf("H".repeat(24), "longest hit", 24, 1);
        valueOf("M".repeat(23) + "H", "first hit", 24, 1);
        valueOf("M".repeat(24), "longest miss", 24, 1);
        valueOf("M".repeat(24), "pairs miss miss", 23, 1);
        valueOf("H".repeat(24), "3 hits + 3 hits + 3 hits + 3 hits", 288, 1);
        HotHand x = Due.with(1);
        Due.row(x, 0, "HM");
        Due.measure(x, "hits");
        Due.due("no such row", x.value(1, 0, 0), NO);
        Due.due("no such row", x.value(-1, 0, 0), NO);
        Due.due("no such measure", x.value(0, 1, 0), NO);
        Due.due("no such measure", x.value(0, -1, 0), NO);
        Due.due("no such what", x.value(0, 0, 2), NO);
        Due.due("no such what", x.value(0, 0, -1), NO);
    }

    private static void mean() {
        HotHand x = Due.with(3);
        Due.measure(x, "share");
        Due.measure(x, "after hit 1");
        Due.due("no rows at all", x.mean(-1, 0, 0), NO);
        Due.row(x, 0, "HHM");
        Due.row(x, 0, "HMHM");
        Due.row(x, 1, "MMH");
        Due.row(x, 1, "");
        Due.due("of one", x.mean(0, 0, 0), x.mean(0, 0, 1), 7, 12);
        Due.due("a row without a value is left out", x.mean(1, 0, 0), x.mean(1, 0, 1), 1, 3);
        Due.due("of all", x.mean(-1, 0, 0), x.mean(-1, 0, 1), 1, 2);
        Due.due("after hit 1", x.mean(0, 1, 0), x.mean(0, 1, 1), 1, 4);
        Due.due("of those that have one", x.mean(-1, 1, 0), x.mean(-1, 1, 1), 1, 4);
        Due.due("none has one", x.mean(1, 1, 0), NO);
        Due.due("no rows", x.mean(2, 0, 1), NO);
        Due.due("no such thrower", x.mean(3, 0, 0), NO);
        Due.due("no such thrower", x.mean(-2, 0, 0), NO);
        Due.due("no such measure", x.mean(0, 2, 0), NO);
        Due.due("no such measure", x.mean(0, -1, 0), NO);
        Due.due("no such what", x.mean(0, 0, 2), NO);
        Due.due("no such what", x.mean(0, 0, -1), NO);
    }

    private static void joined() {
        HotHand x = Due.with(3);
        Due.row(x, 0, "HHMH");
        Due.row(x, 0, "HHHM");
        Due.row(x, 1, "HHHHH");
        Due.due("hits behind one", x.joined(0, true, 1, 0), 3);
        Due.due("all behind one", x.joined(0, true, 1, 1), 5);
        Due.due("hits behind a miss", x.joined(0, false, 1, 0), 1);
        Due.due("all behind a miss", x.joined(0, false, 1, 1), 1);
        Due.due("hits behind two", x.joined(0, true, 2, 0), 1);
        Due.due("all behind two", x.joined(0, true, 2, 1), 3);
        Due.due("behind five", x.joined(1, true, 5, 1), 0);
        Due.due("behind four", x.joined(1, true, 4, 1), 1);
        Due.due("no rows", x.joined(2, true, 1, 1), 0);
        Due.due("n 0", x.joined(0, true, 0, 0), HotHand.NONE);
        Due.due("n 6", x.joined(0, true, 6, 0), HotHand.NONE);
        Due.due("no such thrower", x.joined(3, true, 1, 0), HotHand.NONE);
        Due.due("no such thrower", x.joined(-1, true, 1, 0), HotHand.NONE);
        Due.due("no such what", x.joined(0, true, 1, 2), HotHand.NONE);
        Due.due("no such what", x.joined(0, true, 1, -1), HotHand.NONE);
    }

    private static void leanOf(String measure, int n, int p, long upper, long lower) {
        HotHand x = new HotHand();
        Due.measure(x, measure);
        Due.due("lean of " + measure + " " + n + " " + p, x.lean(0, n, p, 0), x.lean(0, n, p, 1), upper, lower);
    }

    private static void lean() {
        leanOf("after hit 1", 2, 5, 1, 2);
        leanOf("after hit 1", 3, 5, 5, 12);
        leanOf("after hit 1", 4, 5, 17, 42);
        leanOf("after hit 1", 1, 5, NO, NO);
        leanOf("after hit 5", 5, 5, NO, NO);
        leanOf("after hit 5", 6, 3, 3, 10);
        leanOf("share", 12, 7, 7, 10);
        leanOf("hits", 12, 7, 42, 5);
        leanOf("3 hits+3 hits+3 hits+3 hits", 12, 9, 648, 5);
        leanOf("first hit", 2, 5, 1, 1);
        // HH 1, HM 1, MH 2, MM 0, by 3 tenths a HIT.
        leanOf("first hit", 2, 3, 18, 25);
    }

    private static void leanEdges() {
        leanOf("runs", 1, 9, 1, 1);
        // A change at each of 11 places, by 2 * 1/10 * 9/10.
        leanOf("runs", 12, 9, 149, 50);
        leanOf("pairs hit hit", 12, 2, 11, 25);
        HotHand x = new HotHand();
        Due.measure(x, "share");
        Due.due("n 0", x.lean(0, 0, 5, 0), NO);
        Due.due("n 13", x.lean(0, 13, 5, 0), NO);
        Due.due("p 0", x.lean(0, 4, 0, 0), NO);
        Due.due("p 10", x.lean(0, 4, 10, 0), NO);
        Due.due("no such measure", x.lean(1, 4, 5, 0), NO);
        Due.due("no such measure", x.lean(-1, 4, 5, 0), NO);
        Due.due("no such what", x.lean(0, 4, 5, 2), NO);
        Due.due("no such what", x.lean(0, 4, 5, -1), NO);
    }

    private static void right() {
        HotHand x = Due.with(1);
        Due.row(x, 0, "HHMH");
        Due.row(x, 0, "");
        Due.row(x, 0, "H".repeat(12));
        Due.row(x, 0, "H".repeat(13));
        Due.row(x, 0, "MMM");
        Due.measure(x, "after hit 1");
        Due.measure(x, "hits");
        Due.measure(x, "3 hits+3 hits+3 hits+3 hits");
        Due.due("1/2 less 17/42", x.right(0, 0, 5, 0), x.right(0, 0, 5, 1), 2, 21);
        Due.due("3 less 4/5", x.right(0, 1, 2, 0), x.right(0, 1, 2, 1), 11, 5);
        Due.due("below 0", x.right(4, 1, 9, 0), x.right(4, 1, 9, 1), -27, 10);
        Due.due("of 12", x.right(2, 2, 1, 0), x.right(2, 2, 1, 1), 648, 5);
        Due.due("of an empty row", x.right(1, 1, 5, 0), NO);
        Due.due("of 13", x.right(3, 1, 5, 0), NO);
        Due.due("no value", x.right(4, 0, 5, 0), NO);
        Due.due("p 0", x.right(0, 1, 0, 0), NO);
        Due.due("p 10", x.right(0, 1, 10, 0), NO);
        Due.due("no such row", x.right(5, 0, 5, 0), NO);
        Due.due("no such row", x.right(-1, 0, 5, 0), NO);
        Due.due("no such measure", x.right(0, 3, 5, 0), NO);
        Due.due("no such what", x.right(0, 0, 5, 2), NO);
    }

    private static void shuffleOf(String letters, String measure, long least, long all) {
        HotHand x = Due.with(1);
        Due.row(x, 0, letters);
        Due.measure(x, measure);
        Due.due("shuffled " + letters + " by " + measure, x.shuffle(0, 0, 0), x.shuffle(0, 0, 1), least, all);
    }

    private static void shuffle() {
        shuffleOf("HHM", "after hit 1", 2, 3);
        shuffleOf("HMH", "after hit 1", 3, 3);
        shuffleOf("MHH", "after hit 1", 1, 3);
        // MH has no value.
        shuffleOf("HM", "after hit 1", 1, 1);
        shuffleOf("MH", "after hit 1", HotHand.NONE, HotHand.NONE);
        shuffleOf("HHMM", "pairs hit hit", 3, 6);
        shuffleOf("HHMM", "hits - pairs hit hit", 6, 6);
        shuffleOf("HMHM", "runs", 2, 6);
        shuffleOf("H", "hits", 1, 1);
        shuffleOf("MMM", "share", 1, 1);
        shuffleOf("HHHHHHHHMMMMMMMM", "longest hit", 9, 12870);
        shuffleOf("MMMMMMMMHHHHHHHH", "first hit", 1, 12870);
        shuffleOf("HMMMMMMMMMMMMMMH", "share", 120, 120);
        shuffleOf("HHHHHHHHHHHHHHHH", "longest hit", 1, 1);
    }

    private static void shuffleEdges() {
        shuffleOf("", "hits", HotHand.NONE, HotHand.NONE);
        shuffleOf("HHHHHHHHHHHHHHHHM", "hits", HotHand.NONE, HotHand.NONE);
        HotHand x = Due.with(1);
        Due.row(x, 0, "HM");
        Due.measure(x, "hits");
        Due.due("no such row", x.shuffle(1, 0, 0), HotHand.NONE);
        Due.due("no such row", x.shuffle(-1, 0, 0), HotHand.NONE);
        Due.due("no such measure", x.shuffle(0, 1, 0), HotHand.NONE);
        Due.due("no such measure", x.shuffle(0, -1, 0), HotHand.NONE);
        Due.due("no such what", x.shuffle(0, 0, 2), HotHand.NONE);
        Due.due("no such what", x.shuffle(0, 0, -1), HotHand.NONE);
    }

    private static void together() {
        HotHand x = Due.with(3);
        Due.row(x, 0, "HHM");
        Due.row(x, 0, "HM");
        Due.row(x, 0, "");
        Due.row(x, 1, "HHHHH");
        Due.row(x, 1, "HHMM");
        Due.row(x, 1, "MMM");
        Due.due("at least", x.together(0, 0), 4);
        Due.due("all", x.together(0, 1), 6);
        Due.due("pairs", x.together(0, 2), 1);
        Due.due("at least", x.together(1, 0), 3);
        Due.due("all", x.together(1, 1), 6);
        Due.due("pairs", x.together(1, 2), 5);
        // Of HHHMM: HHH together 3 ways (2 pairs), two and one 6 ways, apart 1 way.
        HotHand y = Due.with(1);
        Due.row(y, 0, "HHMHM");
        Due.due("one pair at least", y.together(0, 0), 9);
        Due.due("of", y.together(0, 1), 10);
        Due.due("without rows", x.together(2, 0), 1);
        Due.due("without rows", x.together(2, 1), 1);
        Due.due("without rows", x.together(2, 2), 0);
        Due.due("no such thrower", x.together(3, 0), HotHand.NONE);
        Due.due("no such thrower", x.together(-1, 0), HotHand.NONE);
        Due.due("no such what", x.together(0, 3), HotHand.NONE);
        Due.due("no such what", x.together(0, -1), HotHand.NONE);
    }

    private static void togetherEdges() {
        HotHand x = Due.with(1);
        // 20 * 20 * 10^16 ways are just 4 * 10^18.
        Due.row(x, 0, "H" + "M".repeat(19));
        Due.row(x, 0, "H" + "M".repeat(19));
        for (int i = 0; i < 16; i++) {
            Due.row(x, 0, "HMMMMMMMMM");
        }
        Due.due("all at the edge", x.together(0, 1), 4_000_000_000_000_000_000L);
        Due.due("at least at the edge", x.together(0, 0), 4_000_000_000_000_000_000L);
        Due.row(x, 0, "HHH");
        Due.due("a row of one order more", x.together(0, 1), 4_000_000_000_000_000_000L);
        Due.due("its pairs", x.together(0, 2), 2);
        Due.row(x, 0, "HM");
        for (int what = 0; what <= 2; what++) {
            Due.due("above the edge", x.together(0, what), HotHand.NONE);
        }
        HotHand y = Due.with(1);
        Due.law(y, 0, "hit 100;");
        for (int i = 0; i < 60; i++) {
            y.row(0);
            y.deal(i, 24);
        }
        Due.due("the most pairs", y.together(0, 2), 60 * 23);
        Due.due("of one way", y.together(0, 0), 1);
        Due.due("of one way", y.together(0, 1), 1);
    }

    private static void streak() {
        HotHand x = new HotHand();
        Due.due("one", x.streak(60, 1), (1L << 60) - 1);
        Due.due("all", x.streak(60, 60), 1);
        Due.due("all but one", x.streak(60, 59), 3);
        Due.due("two of five", x.streak(5, 2), 19);
        Due.due("three of four", x.streak(4, 3), 3);
        Due.due("more than there are", x.streak(3, 4), 0);
        Due.due("more than there are", x.streak(1, 60), 0);
        Due.due("of one", x.streak(1, 1), 1);
        Due.due("n 0", x.streak(0, 1), HotHand.NONE);
        Due.due("n 61", x.streak(61, 1), HotHand.NONE);
        Due.due("k 0", x.streak(5, 0), HotHand.NONE);
        Due.due("k 61", x.streak(5, 61), HotHand.NONE);
    }
}
