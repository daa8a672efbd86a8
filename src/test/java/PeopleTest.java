/** Promises 25 to 30, 38, 39: hardness taken off, people in groups, shares of many rows together. */
public final class PeopleTest {
    private static final long NO = -1_000_000_000_000L;

    public static void main(String[] args) {
        hards();
        off();
        chosen();
        hundredths();
        groups();
        groupEdges();
        above();
        pooled();
        season();
        Due.end("PeopleTest");
    }

    /** A row by letters and digits for how hard each throw is. */
    private static void row(HotHand x, int thrower, String letters, String digits) {
        int row = x.row(thrower);
        for (int i = 0; i < letters.length(); i++) {
            x.thrown(row, letters.charAt(i) == 'H', digits.charAt(i) - '0', i % 4);
        }
    }

    private static void hards() {
        HotHand x = Due.with(2);
        row(x, 0, "HHMHM", "01101");
        row(x, 0, "HMH", "113");
        row(x, 1, "H", "1");
        int[][] due = {{2, 2, 0, 0}, {2, 5, 1, 4}, {0, 0, 0, 0}, {1, 1, 0, 0}};
        for (int hard = 0; hard < 4; hard++) {
            for (int what = 0; what < 4; what++) {
                Due.due("hards " + hard + " " + what, x.hards(0, hard, what), due[hard][what]);
            }
        }
        Due.due("no such thrower", x.hards(2, 0, 0), HotHand.NONE);
        Due.due("no such thrower", x.hards(-1, 0, 0), HotHand.NONE);
        Due.due("hard 4", x.hards(0, 4, 0), HotHand.NONE);
        Due.due("hard -1", x.hards(0, -1, 0), HotHand.NONE);
        Due.due("what 4", x.hards(0, 0, 4), HotHand.NONE);
        Due.due("what -1", x.hards(0, 0, -1), HotHand.NONE);
    }

    private static void off() {
        HotHand x = Due.with(3);
        row(x, 0, "HHMHM", "01101");
        row(x, 0, "HMH", "113");
        // Of hard 1: 1 less 4 * 2/5.
        Due.due("below 0", x.off(0, 0), x.off(0, 1), -3, 5);
        row(x, 1, "HHM", "000");
        row(x, 1, "HHHM", "2220");
        // Hard 0: 1 less 3 * 2/4; hard 2: 2 less 2 * 3/3.
        Due.due("of two", x.off(1, 0), x.off(1, 1), -1, 2);
        Due.due("without throws", x.off(2, 0), x.off(2, 1), 0, 1);
        row(x, 2, "MHH", "000");
        // 1 less 1 * 2/3.
        Due.due("above 0", x.off(2, 0), x.off(2, 1), 1, 3);
        row(x, 2, "MHH", "113");
        row(x, 2, "MMHHM", "11333");
        // Hard 1: none behind a HIT; hard 3: 2 less 3 * 3/4.
        Due.due("of three", x.off(2, 0), x.off(2, 1), 1, 12);
        Due.due("no such thrower", x.off(3, 0), NO);
        Due.due("no such thrower", x.off(-1, 0), NO);
        Due.due("no such what", x.off(0, 2), NO);
        Due.due("no such what", x.off(0, -1), NO);
    }

    private static void chosen() {
        HotHand x = Due.with(3);
        row(x, 0, "HHMHM", "01102");
        // Behind a HIT: 1, 1, 2; the others: 0, 0.
        Due.due("harder behind a HIT", x.chosen(0, 0), x.chosen(0, 1), 4, 3);
        row(x, 0, "MMH", "333");
        // The others: 0, 0, 3, 3, 3.
        Due.due("first throws are others, too", x.chosen(0, 0), x.chosen(0, 1), -7, 15);
        row(x, 1, "MMH", "321");
        Due.due("none behind a HIT", x.chosen(1, 0), NO);
        Due.due("no throws", x.chosen(2, 1), NO);
        row(x, 2, "HH", "22");
        Due.due("alike", x.chosen(2, 0), x.chosen(2, 1), 0, 1);
        Due.due("no such thrower", x.chosen(3, 0), NO);
        Due.due("no such thrower", x.chosen(-1, 0), NO);
        Due.due("no such what", x.chosen(0, 2), NO);
        Due.due("no such what", x.chosen(0, -1), NO);
    }

    private static void hundredths() {
        HotHand x = Due.with(3);
        Due.row(x, 0, "HHM");
        Due.due("cut", x.hundredths(0), 66);
        Due.row(x, 0, "HHH");
        Due.due("of all rows", x.hundredths(0), 83);
        Due.row(x, 1, "");
        Due.due("no throws", x.hundredths(1), HotHand.NONE);
        Due.row(x, 2, "MM");
        Due.due("none", x.hundredths(2), 0);
        Due.due("no such thrower", x.hundredths(3), HotHand.NONE);
        Due.due("no such thrower", x.hundredths(-1), HotHand.NONE);
    }

    private static void groupsOf(HotHand x, int k, int sum, int first, int second, int third) {
        Due.due("sum of " + k, x.groups(k, 0), sum);
        Due.due("first of " + k, x.groups(k, 1), first);
        Due.due("second of " + k, x.groups(k, 2), second);
        Due.due("third of " + k, x.groups(k, 3), third);
    }

    private static void groups() {
        HotHand x = Due.with(7);
        // 100, 0, 50, -, 10, 90, 20 hundredths.
        Due.row(x, 0, "H");
        Due.row(x, 1, "M");
        Due.row(x, 2, "HM");
        Due.row(x, 4, "HMMMMMMMMM");
        Due.row(x, 5, "HHHHHHHHHM");
        Due.row(x, 6, "HMMMM");
        // 0 10 20 50 90 100 from 20.
        groupsOf(x, 1, 20 + 10 + 30 + 70 + 80, 6, 0, 0);
        // 0 10 20 | 50 90 100 is as good as 0 10 20 50 | 90 100, and its first row is shorter.
        groupsOf(x, 2, 10 + 10 + 40 + 10, 3, 3, 0);
        // 0 10 20 | 50 | 90 100.
        groupsOf(x, 3, 20 + 10, 3, 1, 2);
    }

    private static void groupEdges() {
        HotHand x = Due.with(4);
        Due.due("nobody", x.groups(1, 0), HotHand.NONE);
        Due.row(x, 3, "HM");
        groupsOf(x, 1, 0, 1, 0, 0);
        Due.due("fewer than k", x.groups(2, 0), HotHand.NONE);
        for (int t = 0; t < 3; t++) {
            Due.row(x, t, "MH");
        }
        groupsOf(x, 1, 0, 4, 0, 0);
        groupsOf(x, 2, 0, 1, 3, 0);
        groupsOf(x, 3, 0, 1, 1, 2);
        Due.due("k 0", x.groups(0, 0), HotHand.NONE);
        Due.due("k 4", x.groups(4, 0), HotHand.NONE);
        Due.due("what 4", x.groups(1, 4), HotHand.NONE);
        Due.due("what -1", x.groups(1, -1), HotHand.NONE);
    }

    private static void above() {
        HotHand x = Due.with(12);
        // Behind a HIT 1 of 2, behind a miss 1 of 4.
        Due.row(x, 0, "HHM");
        Due.row(x, 0, "MMMMH");
        Due.row(x, 1, "HMMH");
        Due.row(x, 2, "HHHH");
        // Behind a HIT 1 of 1, behind a miss 0 of 1.
        Due.row(x, 11, "HH");
        Due.row(x, 11, "MM");
        // Alike: 1 of 2 each.
        Due.row(x, 3, "HHM");
        Due.row(x, 3, "MMH");
        Due.due("25 above", x.above(25), 1 | 1 << 11);
        Due.due("not 26", x.above(26), 1 << 11);
        Due.due("100 above", x.above(100), 1 << 11);
        Due.due("at least as great", x.above(0), 1 | 1 << 3 | 1 << 11);
        Due.due("at least 1", x.above(1), 1 | 1 << 11);
        Due.due("below 0", x.above(-1), HotHand.NONE);
        Due.due("above 100", x.above(101), HotHand.NONE);
        Due.due("nobody", new HotHand().above(0), 0);
    }

    private static void pooled() {
        HotHand x = Due.with(5);
        for (int what = 0; what <= 5; what++) {
            Due.due("nothing yet", x.pooled(what), 0);
        }
        Due.row(x, 0, "HHMM");
        Due.row(x, 1, "HMHM");
        Due.row(x, 1, "MH");
        Due.row(x, 2, "HHHH");
        Due.row(x, 3, "HHM");
        Due.row(x, 3, "MMH");
        Due.row(x, 4, "HMH");
        int[] due = {1 + 0 + 3 + 1 + 0, 2 + 2 + 3 + 2 + 1, 0 + 2 + 0 + 1 + 1, 1 + 2 + 0 + 2 + 1, 1, 2};
        for (int what = 0; what <= 5; what++) {
            Due.due("pooled " + what, x.pooled(what), due[what]);
        }
        Due.due("what 6", x.pooled(6), HotHand.NONE);
        Due.due("what -1", x.pooled(-1), HotHand.NONE);
    }

    private static void season() {
        HotHand x = Due.with(2);
        Due.row(x, 0, "HHM");
        Due.row(x, 1, "HHHH");
        Due.row(x, 0, "MMH");
        Due.due("one row", x.season(0, 0, true, 1, 0), 1);
        Due.due("one row", x.season(0, 0, true, 1, 1), 2);
        Due.due("two rows of two", x.season(0, 1, true, 1, 0), 4);
        Due.due("two rows of two", x.season(0, 1, true, 1, 1), 5);
        Due.due("two rows of two", x.season(1, 2, true, 2, 0), 2);
        Due.due("all", x.season(0, 2, false, 1, 1), 2);
        Due.due("all", x.season(0, 2, false, 2, 0), 1);
        Due.due("from above to", x.season(2, 1, true, 1, 0), HotHand.NONE);
        Due.due("no such row", x.season(0, 3, true, 1, 0), HotHand.NONE);
        Due.due("no such row", x.season(-1, 1, true, 1, 0), HotHand.NONE);
        Due.due("n 0", x.season(0, 1, true, 0, 0), HotHand.NONE);
        Due.due("n 6", x.season(0, 1, true, 6, 0), HotHand.NONE);
        Due.due("n 5", x.season(0, 1, true, 5, 1), 0);
        Due.due("what 2", x.season(0, 1, true, 1, 2), HotHand.NONE);
        Due.due("what -1", x.season(0, 1, true, 1, -1), HotHand.NONE);
    }
}
