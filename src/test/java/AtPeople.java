/** Promises 25 to 30, 38, 39: by how hard throws are, people in groups, all of them together, seasons. */
final class AtPeople {
    private static final int NONE = HotHand.NONE;
    private static final long NO = Edge.NO;

    private AtPeople() {
    }

    static void run() {
        hards();
        off();
        chosen();
        hundredths();
        groups();
        groupsOfAlike();
        groupsRefused();
        above();
        pooled();
        season();
    }

    /** A row by letters, and digits for how hard each throw is. */
    private static void row(HotHand x, int thrower, String letters, String digits) {
        int row = x.row(thrower);
        for (int i = 0; i < letters.length(); i++) {
            x.thrown(row, letters.charAt(i) == 'H', digits.charAt(i) - '0', 3 - i % 4);
        }
    }

    private static void hards() {
        HotHand x = Due.with(3);
        row(x, 0, "HHMHH", "03303");
        row(x, 0, "HMH", "330");
        row(x, 1, "HHH", "333");
        Doc.at(Doc.TERMS, "BY HARD: of a THROWER's THROWS that are so HARD: HITS, all, and of those behind a HIT in their ROW"
                + " HITS, all.");
        int[] none = {3, 3, 0, 0};
        int[] three = {3, 5, 2, 4};
        for (int what = 0; what < 4; what++) {
            Due.due("hard 0, " + what, x.hards(0, 0, what), none[what]);
            Due.due("hard 1, " + what, x.hards(0, 1, what), 0);
            Due.due("hard 2, " + what, x.hards(0, 2, what), 0);
            Due.due("hard 3, " + what, x.hards(0, 3, what), three[what]);
        }
        Doc.at(25, "BY HARD: HITS (what 0), all (1), behind a HIT: HITS (2), all (3).");
        // A row's first is behind none, whatever the row ahead of it ends with.
        int[] due = {3, 3, 2, 2};
        for (int what = 0; what < 4; what++) {
            Due.due("one row, " + what, x.hards(1, 3, what), due[what]);
            Due.due("no throws, " + what, x.hards(2, 0, what), 0);
        }
        Doc.at(25, "NONE: none such.");
        Edge.of("thrower", 0, 2, NONE, t -> x.hards(t, 0, 0));
        Edge.of("hard", 0, 3, NONE, hard -> x.hards(0, hard, 1));
        Edge.of("what", 0, 3, NONE, what -> x.hards(0, 3, what));
    }

    private static void offOf(String letters, String digits, long upper, long lower) {
        HotHand x = Due.with(1);
        row(x, 0, letters, digits);
        Due.due("off " + letters + " " + digits, x.off(0, 0), x.off(0, 1), upper, lower);
    }

    private static void off() {
        Doc.at(Doc.TERMS, "OFF: of all four the HITS behind a HIT less these THROWS times HITS by all so HARD, together.");
        // 1 less 2 * 2/3.
        offOf("HHM", "000", -1, 3);
        offOf("HHM", "333", -1, 3);
        // Hard 0: 0 less 0; hard 1: 1 less 1 * 1; hard 2: 0 less 1 * 0.
        offOf("HHM", "012", 0, 1);
        // Hard 0: 1 less 2 * 2/3; hard 1: 1 less 1 * 1/2; hard 2: 0 less 1 * 2/4; hard 3: 0 less 0.
        HotHand x = Due.with(1);
        row(x, 0, "HHM", "000");
        row(x, 0, "HH", "21");
        row(x, 0, "MM", "12");
        row(x, 0, "MHM", "322");
        Due.due("of all four", x.off(0, 0), x.off(0, 1), -1, 3);
        offOf("MHH", "000", 1, 3);
        offOf("MMM", "012", 0, 1);
        Doc.at(26, "OFF: the upper number (what 0), the lower one (1), in lowest terms (0 by 1 without THROWS).");
        Due.due("without throws", Due.with(1).off(0, 0), Due.with(1).off(0, 1), 0, 1);
        HotHand empty = Due.with(1);
        empty.row(0);
        Due.due("with an empty row", empty.off(0, 0), empty.off(0, 1), 0, 1);
        // 1 less 2 * 2/4; 1 less 3 * 3/5.
        offOf("HHMM", "0000", 0, 1);
        offOf("HHMHM", "00000", -4, 5);
        Doc.at(26, "-1,000,000,000,000: none such.");
        Edge.of("thrower", 0, 1, NO, t -> Due.with(2).off(t, 0));
        Edge.of("what", 0, 1, NO, what -> Due.with(2).off(0, what));
    }

    private static void chosenOf(String letters, String digits, long upper, long lower) {
        HotHand x = Due.with(1);
        row(x, 0, letters, digits);
        Due.due("chosen " + letters + " " + digits, x.chosen(0, 0), x.chosen(0, 1), upper, lower);
    }

    private static void chosen() {
        Doc.at(Doc.TERMS, "CHOSEN: the mean of HARD behind a HIT less that of all others.");
        chosenOf("HM", "03", 3, 1);
        chosenOf("HM", "30", -3, 1);
        chosenOf("HHH", "333", 0, 1);
        chosenOf("HHM", "012", 3, 2);
        chosenOf("HMM", "121", 1, 1);
        chosenOf("HMMM", "1211", 1, 1);
        chosenOf("HMMH", "1210", 4, 3);
        Doc.at(27, "CHOSEN, likewise;");
        Edge.of("thrower", 0, 0, NO, t -> withThrows().chosen(t, 0));
        Edge.of("what", 0, 1, NO, what -> withThrows().chosen(0, what));
        Doc.at(27, "-1,000,000,000,000, too, if it has none of both.");
        chosenOf("", "", NO, NO);
        chosenOf("H", "3", NO, NO);
        chosenOf("MMH", "123", NO, NO);
        chosenOf("MHM", "123", 3, 2);
        Due.due("no rows", Due.with(1).chosen(0, 0), NO);
    }

    private static HotHand withThrows() {
        HotHand x = Due.with(1);
        row(x, 0, "HM", "03");
        return x;
    }

    /** A thrower with so many HITS of so many THROWS, in rows of 24 at most. */
    private static void throwsOf(HotHand x, int thrower, int hits, int all) {
        int row = NONE;
        for (int i = 0; i < all; i++) {
            row = i % 24 == 0 ? x.row(thrower) : row;
            x.thrown(row, i < hits, 0, 0);
        }
    }

    private static void hundredthsOf(int hits, int all, int due) {
        HotHand x = Due.with(1);
        throwsOf(x, 0, hits, all);
        Due.due(hits + " of " + all, x.hundredths(0), due);
    }

    private static void hundredths() {
        Doc.at(Doc.TERMS, "HUNDREDTHS of a THROWER: its HITS by THROWS (cut; of those with some).");
        hundredthsOf(0, 1, 0);
        hundredthsOf(1, 1, 100);
        hundredthsOf(1, 3, 33);
        hundredthsOf(2, 3, 66);
        hundredthsOf(1, 100, 1);
        hundredthsOf(1, 101, 0);
        hundredthsOf(100, 101, 99);
        hundredthsOf(99, 100, 99);
        hundredthsOf(7, 24, 29);
        HotHand several = people(70, 20, 100, 0);
        Due.due("of several, the first", several.hundredths(0), 70);
        Due.due("of several, the second", several.hundredths(1), 20);
        Due.due("of several, the third", several.hundredths(2), 100);
        Due.due("of several, the last", several.hundredths(3), 0);
        Doc.at(28, "HUNDREDTHS. NONE: none such, no THROWS.");
        hundredthsOf(0, 0, NONE);
        HotHand x = Due.with(2);
        x.row(1);
        Due.due("an empty row", x.hundredths(1), NONE);
        x.thrown(0, false, 0, 0);
        Due.due("one throw", x.hundredths(1), 0);
        Edge.of("thrower", 1, 1, NONE, x::hundredths);
        Due.due("without rows", x.hundredths(0), NONE);
    }

    private static void groupsOf(HotHand x, int k, int... due) {
        for (int what = 0; what <= 3; what++) {
            Due.due("groups(" + k + ", " + what + ")", x.groups(k, what), due[what]);
        }
    }

    /** Throwers of so many hundredths, by numbers; below 0: without throws. */
    private static HotHand people(int... hundredths) {
        HotHand x = Due.with(hundredths.length);
        for (int t = 0; t < hundredths.length; t++) {
            if (hundredths[t] >= 0) {
                throwsOf(x, t, hundredths[t] / 10, 10);
            }
        }
        return x;
    }

    private static void groups() {
        Doc.at(Doc.TERMS, "GROUPS of k (1 to 3): THROWERS by these (of several by numbers) in k rows one behind the other,"
                + " none empty: the least sum of how far each is from the middle one of its row (of two the lesser),"
                + " together;");
        groupsOf(people(70), 1, 0, 1, 0, 0);
        groupsOf(people(70, 20), 1, 50, 2, 0, 0);
        groupsOf(people(70, 20), 2, 0, 1, 1, 0);
        groupsOf(people(90, 0, 20), 1, 20 + 70, 3, 0, 0);
        groupsOf(people(90, 0, 20), 2, 20, 2, 1, 0);
        groupsOf(people(90, 70, 0), 2, 20, 1, 2, 0);
        groupsOf(people(90, 0, 20), 3, 0, 1, 1, 1);
        // 0 10 40 90: from 10 it's 10 + 30 + 80.
        groupsOf(people(40, 90, 10, 0), 1, 120, 4, 0, 0);
        groupsOf(people(40, 90, 10, 0), 2, 40, 3, 1, 0);
        groupsOf(people(40, 90, 10, 0), 3, 10, 2, 1, 1);
        // 0 10 | 40 50 60 | 90 100, and one without throws among them.
        groupsOf(people(50, 100, -1, 10, 60, 0, 40, 90), 3, 10 + 20 + 10, 2, 3, 2);
        // All 12: 0 10 20 30 40 50 50 60 70 80 90 100.
        HotHand all = people(0, 100, 10, 90, 20, 80, 30, 70, 40, 60, 50, 50);
        groupsOf(all, 1, 2 * (50 + 40 + 30 + 20 + 10), 12, 0, 0);
        // 0 to 40 from 20, the others from 70.
        groupsOf(all, 2, 60 + 110, 5, 7, 0);
        // 0 to 20 from 10, 30 to 60 from 50, the others from 80.
        groupsOf(all, 3, 20 + 40 + 40, 3, 5, 4);
    }

    private static void groupsOfAlike() {
        Doc.at(Doc.TERMS, "of several the first row shortest, then the second.");
        groupsOf(people(50, 50), 1, 0, 2, 0, 0);
        groupsOf(people(50, 50, 50), 2, 0, 1, 2, 0);
        groupsOf(people(50, 50, 50, 50), 3, 0, 1, 1, 2);
        // 0 | 10 20 is as good as 0 10 | 20.
        groupsOf(people(0, 10, 20), 2, 10, 1, 2, 0);
        // 0 | 10 | 20 30 is as good as 0 | 10 20 | 30 and 0 10 | 20 | 30.
        groupsOf(people(0, 10, 20, 30), 3, 10, 1, 1, 2);
        // All 12: one, one, ten.
        groupsOf(people(30, 30, 30, 30, 30, 30, 30, 30, 30, 30, 30, 30), 3, 0, 1, 1, 10);
    }

    private static void groupsRefused() {
        Doc.at(29, "GROUPS: the sum (what 0), how many in the first row (1), the second (2), the third (3; 0).");
        groupsOf(people(0, 50, 100), 1, 100, 3, 0, 0);
        groupsOf(people(0, 50, 100), 2, 50, 1, 2, 0);
        groupsOf(people(0, 50, 100), 3, 0, 1, 1, 1);
        Doc.at(29, "NONE: none such, fewer THROWERS with THROWS than k.");
        Edge.of("k", 1, 3, NONE, k -> people(0, 50, 100).groups(k, 0));
        Edge.of("k", 1, 3, NONE, k -> people(0, 50, 100, 20, 30, 70).groups(k, 1));
        Edge.of("what", 0, 3, NONE, what -> people(0, 50, 100).groups(3, what));
        for (int k = 1; k <= 3; k++) {
            for (int what = 0; what <= 3; what++) {
                Due.due("nobody", new HotHand().groups(k, what), NONE);
                Due.due("none with throws", people(-1, -1, -1).groups(k, what), NONE);
            }
        }
        Due.due("two for two", people(-1, 50, -1, 20).groups(2, 0), 0);
        Due.due("two for three", people(-1, 50, -1, 20).groups(3, 0), NONE);
        Due.due("one for one", people(-1, 50).groups(1, 1), 1);
        Due.due("one for two", people(-1, 50).groups(2, 1), NONE);
    }

    private static void above() {
        HotHand x = Due.with(12);
        // Behind a HIT 2 of 4, behind a miss 1 of 4.
        Due.row(x, 0, "HHHMM");
        Due.row(x, 0, "HM");
        Due.row(x, 0, "MMMH");
        // 1 of 3 and 1 of 3.
        Due.row(x, 1, "HHM");
        Due.row(x, 1, "HM");
        Due.row(x, 1, "MMMH");
        // 0 of 1 and 1 of 1; then nothing behind a miss; nothing behind a HIT.
        Due.row(x, 2, "HMH");
        Due.row(x, 3, "HHHH");
        Due.row(x, 4, "MMH");
        Due.row(x, 11, "HH");
        Due.row(x, 11, "MM");
        Doc.at(Doc.TERMS, "ABOVE by d: THROWERS whose JOINED share behind a HIT is at least d hundredths above that behind a"
                + " miss (both told).");
        Due.due("25 hundredths", x.above(25), 1 | 1 << 11);
        Due.due("26 hundredths", x.above(26), 1 << 11);
        Due.due("100 hundredths", x.above(100), 1 << 11);
        Due.due("1 hundredth", x.above(1), 1 | 1 << 11);
        Due.due("0 hundredths: alike, too", x.above(0), 3 | 1 << 11);
        // 2 of 3 above 0 of 1; 1 of 1 above 1 of 3: 66.7 hundredths.
        HotHand thirds = Due.with(2);
        Due.row(thirds, 0, "HHHM");
        Due.row(thirds, 0, "MM");
        Due.row(thirds, 1, "HH");
        Due.row(thirds, 1, "MMMH");
        Due.due("66 hundredths", thirds.above(66), 3);
        Due.due("67 hundredths", thirds.above(67), 0);
        Doc.at(30, "ABOVE: as bits.");
        Due.due("the last thrower's bit", x.above(90), 2048);
        Due.due("nobody", new HotHand().above(0), 0);
        Doc.at(30, "NONE: d not 0 to 100.");
        Edge.of("d", 0, 100, NONE, x::above);
    }

    private static void pooled() {
        HotHand x = Due.with(12);
        Doc.at(Doc.TERMS, "POOLED: JOINED behind one HIT, behind one miss, of all THROWERS together; how many THROWERS have a"
                + " greater share behind a HIT than behind a miss, how many a lesser one (both told).");
        for (int what = 0; what <= 5; what++) {
            Due.due("nothing yet, " + what, x.pooled(what), 0);
        }
        // Greater: 1 of 1, 0 of 1; lesser: 0 of 1, 1 of 1; alike; behind HITS alone; behind misses alone.
        Due.row(x, 0, "HH");
        Due.row(x, 0, "MM");
        Due.row(x, 1, "HMH");
        Due.row(x, 2, "HMM");
        Due.row(x, 3, "HHH");
        Due.row(x, 4, "MMH");
        Due.row(x, 11, "HHMM");
        int[] due = {1 + 0 + 0 + 2 + 0 + 1, 1 + 1 + 1 + 2 + 0 + 2, 0 + 1 + 0 + 0 + 1 + 0, 1 + 1 + 1 + 0 + 2 + 1, 2, 1};
        Doc.at(38, "POOLED: HITS behind a HIT (what 0), all (1), behind a miss (2, 3), THROWERS with a greater share (4),"
                + " with a lesser one (5).");
        for (int what = 0; what <= 5; what++) {
            Due.due("pooled " + what, x.pooled(what), due[what]);
        }
        Doc.at(38, "NONE for others.");
        Edge.of("what", 0, 5, NONE, x::pooled);
    }

    private static void season() {
        HotHand x = Due.with(2);
        Due.row(x, 0, "HHHHHH");
        Due.row(x, 1, "HM");
        Due.row(x, 0, "");
        Due.row(x, 1, "MMMMMM");
        Doc.at(Doc.TERMS, "SEASON: of ROWS from one to another one (both in; all THROWERS) JOINED.");
        Due.due("the first row alone", x.season(0, 0, true, 1, 1), 5);
        Due.due("the second one, too", x.season(0, 1, true, 1, 1), 6);
        Due.due("all", x.season(0, 3, true, 1, 1), 6);
        Due.due("without the first", x.season(1, 3, true, 1, 1), 1);
        Due.due("the empty one", x.season(2, 2, true, 1, 1), 0);
        Due.due("the last one alone", x.season(3, 3, false, 1, 1), 5);
        Due.due("up to the last one", x.season(2, 3, false, 5, 1), 1);
        Doc.at(39, "SEASON: HITS (what 0), all (1).");
        Due.due("hits behind hits", x.season(0, 1, true, 1, 0), 5);
        Due.due("all behind hits", x.season(0, 1, true, 1, 1), 6);
        Due.due("hits behind five", x.season(0, 3, true, 5, 0), 1);
        Due.due("hits behind misses", x.season(0, 3, false, 1, 0), 0);
        Doc.at(39, "NONE: none such.");
        Edge.of("from", 0, 3, NONE, from -> x.season(from, 3, true, 1, 0));
        Edge.of("to", 0, 3, NONE, to -> x.season(0, to, true, 1, 0));
        Edge.of("n", 1, 5, NONE, n -> x.season(0, 3, true, n, 0));
        Edge.of("what", 0, 1, NONE, what -> x.season(0, 3, true, 1, what));
        Due.due("from just above to", x.season(3, 2, true, 1, 0), NONE);
        Due.due("no rows", Due.with(1).season(0, 0, true, 1, 0), NONE);
    }
}
