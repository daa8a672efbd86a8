/** Promises 31, 32, 33, 36, 37: hidden states, bets and their odds, what laws foretold, heat. */
final class AtWatchers {
    private static final int NONE = HotHand.NONE;

    private AtWatchers() {
    }

    static void run() {
        hidden();
        paths();
        hiddenRefused();
        bets();
        betsRefused();
        odds();
        oddsAtTheirLimit();
        foretold();
        heat();
    }

    private static HotHand withRow(String letters) {
        HotHand x = Due.with(1);
        Due.row(x, 0, letters);
        return x;
    }

    private static void hiddenOf(String letters, int stay, int hot, int cold, long... due) {
        HotHand x = withRow(letters);
        for (int what = 0; what <= 2; what++) {
            Due.due("hidden of " + letters + " by " + stay + ", " + hot + ", " + cold + ", " + what,
                    x.hidden(0, stay, hot, cold, what), due[what]);
        }
    }

    private static void hidden() {
        Doc.at(Doc.TERMS, "HIDDEN (a ROW of 1 to 9; stay, hot, cold: tenths 0 to 10): it's hot or cold at each THROW, both as"
                + " likely at the first; it stays as it was by stay; a HIT by hot or cold.");
        hiddenOf("H", 0, 7, 4, 1, 7, 11);
        hiddenOf("M", 0, 7, 4, 0, 6, 9);
        hiddenOf("H", 10, 4, 7, 0, 7, 11);
        // Cold cold 9 * 4 * 4, hot cold 1 * 7 * 4, cold hot 1 * 4 * 7, hot hot 9 * 7 * 7.
        hiddenOf("HH", 9, 7, 4, 3, 441, 144 + 28 + 28 + 441);
        hiddenOf("HM", 9, 7, 4, 0, 216, 216 + 42 + 12 + 189);
        hiddenOf("HM", 1, 7, 4, 1, 378, 24 + 378 + 108 + 21);
        hiddenOf("MH", 1, 7, 4, 2, 378, 24 + 378 + 108 + 21);
        hiddenOf("HMH", 0, 10, 0, 5, 100_000, 100_000);
        hiddenOf("HMH", 0, 0, 10, 2, 100_000, 100_000);
        hiddenOf("HHH", 10, 10, 0, 7, 100_000, 100_000);
    }

    private static void paths() {
        Doc.at(Doc.TERMS, "A PATH is bits by THROWS (1 hot): the weight of one is all these tenths multiplied: the likeliest"
                + " PATH (of several the least), its weight, of how much in all.");
        hiddenOf("HMMMMMMMM", 5, 10, 0, 1, 1_000_000_000L * 390_625, 1_000_000_000L * 390_625);
        hiddenOf("MMMMMMMMH", 5, 10, 0, 256, 1_000_000_000L * 390_625, 1_000_000_000L * 390_625);
        hiddenOf("H", 5, 5, 5, 0, 5, 10);
        hiddenOf("HMH", 5, 5, 5, 0, 3125, 8 * 3125);
        // All 0: the least path.
        hiddenOf("HM", 5, 0, 0, 0, 0, 0);
        hiddenOf("HHHHHHHHH", 10, 0, 0, 0, 0, 0);
        // Hot then cold as likely as cold then hot: the least has the first one hot.
        hiddenOf("HH", 0, 3, 3, 1, 90, 180);
        hiddenOf("HHHHHHHHH", 10, 10, 10, 0, 100_000_000_000_000_000L, 200_000_000_000_000_000L);
        hiddenOf("MMMMMMMMM", 10, 0, 1, 511, 100_000_000_000_000_000L, 100_000_000_000_000_000L + 38_742_048_900_000_000L);
        hiddenOf("HHHHHHHHH", 5, 10, 10, 0, 390_625_000_000_000L, 512 * 390_625_000_000_000L);
    }

    private static void hiddenRefused() {
        Doc.at(31, "HIDDEN: the PATH (what 0), its weight (1), all (2).");
        hiddenOf("HM", 8, 9, 1, 1, 162, 72 + 162 + 2 + 72);
        Doc.at(31, "NONE: none such.");
        for (int length = 0; length <= 24; length++) {
            HotHand x = withRow("H".repeat(length));
            for (int what = 0; what <= 2; what++) {
                Due.due("a row of " + length, x.hidden(0, 10, 10, 0, what) != NONE, length >= 1 && length <= 9);
            }
        }
        HotHand x = withRow("HM");
        Edge.of("row", 0, 0, NONE, row -> x.hidden(row, 5, 5, 5, 0));
        Edge.of("stay", 0, 10, NONE, stay -> x.hidden(0, stay, 5, 5, 0));
        Edge.of("hot", 0, 10, NONE, hot -> x.hidden(0, 5, hot, 5, 0));
        Edge.of("cold", 0, 10, NONE, cold -> x.hidden(0, 5, 5, cold, 0));
        Edge.of("what", 0, 2, NONE, what -> x.hidden(0, 5, 5, 5, what));
    }

    private static void betsOf(HotHand x, String belief, int... due) {
        Due.due("a belief", Due.belief(x, 0, belief) >= 0, true);
        for (int what = 0; what <= 3; what++) {
            Due.due("bets by '" + belief + "', " + what, x.bets(0, 0, what), due[what]);
        }
    }

    private static void bets() {
        Doc.at(Doc.TERMS, "BETS of a WATCHER on a THROWER's THROWS by the BELIEF (the first that holds, ASKED ahead of the"
                + " THROW, with its HARD and GUARDS; none, pass: no BET): how many, how many right;");
        HotHand x = Due.with(2);
        Due.row(x, 0, "HHM");
        Due.row(x, 1, "MMMMM");
        int row = x.row(0);
        x.thrown(row, true, 3, 0);
        x.thrown(row, false, 0, 3);
        betsOf(x, "", 0, 0, 0, 0);
        betsOf(x, "pass;", 0, 0, 0, 0);
        betsOf(x, "hit;", 5, 3, 0, 0);
        betsOf(x, "miss;", 0, 0, 5, 2);
        betsOf(x, "hit if run > 9;", 0, 0, 0, 0);
        betsOf(x, "hit if place = 0; miss;", 2, 2, 3, 2);
        betsOf(x, "pass if place = 0; hit if run = 2; miss;", 1, 0, 2, 1);
        betsOf(x, "hit; miss; pass;", 5, 3, 0, 0);
        betsOf(x, "pass; hit;", 0, 0, 0, 0);
        betsOf(x, "hit if hard = 3; miss if guard = 3;", 1, 1, 1, 1);
        betsOf(x, "miss if hard > 3 or guard > 3;", 0, 0, 0, 0);
        betsOf(x, "hit if state = 2;", 0, 0, 0, 0);
        Due.law(x, 0, "state 2 if run = 1;");
        betsOf(x, "hit if state = 2;", 3, 1, 0, 0);
    }

    private static void betsRefused() {
        Doc.at(32, "BETS: on a HIT (what 0), right of these (1), on a miss (2), right of these (3).");
        HotHand x = withRow("HHM");
        betsOf(x, "miss if place = 1; hit;", 2, 1, 1, 0);
        Due.due("of a thrower without throws", Due.with(2).bets(0, 1, 0), 0);
        Doc.at(32, "NONE: none such.");
        Edge.of("watcher", 0, 3, NONE, w -> x.bets(w, 0, 0));
        Edge.of("thrower", 0, 0, NONE, t -> x.bets(0, t, 0));
        Edge.of("what", 0, 3, NONE, what -> x.bets(0, 0, what));
    }

    private static void oddsOf(String letters, String belief, long least, long all) {
        HotHand x = withRow(letters);
        Due.belief(x, 2, belief);
        Due.due("odds of '" + belief + "' on " + letters, x.odds(2, 0, 0), x.odds(2, 0, 1), least, all);
    }

    private static void odds() {
        Doc.at(Doc.TERMS, "ODDS: of all ways to lay as many BETS on a HIT upon all his THROWS (60 at most) how many have as"
                + " many HITS at least.");
        oddsOf("HHM", "", 1, 1);
        oddsOf("HHM", "miss;", 1, 1);
        oddsOf("HHM", "hit;", 1, 1);
        oddsOf("MMM", "hit if place = 0;", 3, 3);
        oddsOf("HMM", "hit if place = 0;", 1, 3);
        oddsOf("MHM", "hit if place = 0;", 3, 3);
        // Two bets upon four throws: both right 1, one at least 5, of 6.
        oddsOf("HHMM", "hit if place < 2;", 1, 6);
        oddsOf("HMHM", "hit if place < 2;", 5, 6);
        oddsOf("MMHH", "hit if place < 2;", 6, 6);
        oddsOf("HHMM", "hit if place < 2; miss;", 1, 6);
        oddsOf("", "hit;", 1, 1);
        Doc.at(33, "ODDS: how many ways at least (what 0), of how many (1).");
        oddsOf("HHM", "hit if place = 0;", 2, 3);
    }

    /** One HIT, then misses, so many in all, and a BELIEF that bets on each row's first twelve. */
    private static HotHand ofThrows(int all) {
        HotHand x = Due.with(1);
        Due.belief(x, 0, "hit if place < 12;");
        for (int i = 0; i < all; i++) {
            if (i % 24 == 0) {
                x.row(0);
            }
            x.thrown(i / 24, i == 0, 0, 0);
        }
        return x;
    }

    private static void oddsAtTheirLimit() {
        Doc.at(33, "NONE: none such, more than 60 THROWS.");
        HotHand x = ofThrows(60);
        // 36 bets upon 60, one of them right: 59 above 35, of 60 above 36.
        Due.due("60 throws: bets", x.bets(0, 0, 0), 36);
        Due.due("60 throws: at least", x.odds(0, 0, 0), 21_631_432_489_303_455L);
        Due.due("60 throws: all", x.odds(0, 0, 1), 36_052_387_482_172_425L);
        x = ofThrows(61);
        Due.due("61 throws", x.odds(0, 0, 0), NONE);
        Due.due("61 throws", x.odds(0, 0, 1), NONE);
        Due.due("61 throws without bets", x.odds(1, 0, 1), NONE);
        HotHand y = withRow("HM");
        Edge.of("watcher", 0, 3, NONE, w -> y.odds(w, 0, 0));
        Edge.of("thrower", 0, 0, NONE, t -> y.odds(0, t, 0));
        Edge.of("what", 0, 1, NONE, what -> y.odds(0, 0, what));
        // The most ways: 30 upon 60.
        HotHand most = Due.with(1);
        Due.law(most, 0, "hit 100;");
        for (int i = 0; i < 5; i++) {
            most.row(0);
            most.deal(i, 12);
        }
        Due.belief(most, 0, "hit if place < 6;");
        Due.due("30 bets", most.bets(0, 0, 0), 30);
        Due.due("30 upon 60", most.odds(0, 0, 1), 118_264_581_564_861_424L);
        Due.due("all are HITS", most.odds(0, 0, 0), 118_264_581_564_861_424L);
    }

    private static void foretold() {
        HotHand x = Due.with(2);
        Due.row(x, 0, "HHMH");
        Due.row(x, 1, "H");
        Due.law(x, 0, "hit 100 if run = 1; hit 0 if run = 2; hit 60 if miss = 1; hit 59;");
        // 59 100 0 60.
        Doc.at(Doc.TERMS, "FORETOLD by a LAW: of a THROWER's THROWS with a CHANCE from one to another one (both in) the"
                + " CHANCES together, HITS, all.");
        int[][] due = {{0, 100, 219, 3, 4}, {0, 0, 0, 0, 1}, {100, 100, 100, 1, 1}, {59, 60, 119, 2, 2}, {60, 99, 60, 1, 1},
            {60, 100, 160, 2, 2}, {1, 59, 59, 1, 1}, {1, 58, 0, 0, 0}, {61, 99, 0, 0, 0}, {0, 59, 59, 1, 2}};
        for (int[] d : due) {
            for (int what = 0; what <= 2; what++) {
                Due.due("from " + d[0] + " to " + d[1] + ", " + what, x.foretold(0, d[0], d[1], what), d[2 + what]);
            }
        }
        HotHand guarded = Due.with(1);
        Due.law(guarded, 0, "hit 90; harder 5; guarded 7; state 1 if hard = 3;");
        guarded.row(0);
        guarded.thrown(0, true, 3, 0);
        guarded.thrown(0, false, 0, 3);
        guarded.thrown(0, true, 1, 1);
        Due.due("with hard and guards as they were", guarded.foretold(0, 75, 75, 2), 1);
        Due.due("with hard and guards as they were", guarded.foretold(0, 69, 69, 2), 1);
        Due.due("with hard and guards as they were", guarded.foretold(0, 0, 100, 0), 75 + 69 + 78);
        // 10 90 90, by the STATE of the second one's own LAW.
        HotHand second = Due.with(2);
        Due.law(second, 1, "hit 90 if state = 1; hit 10; state 1 if run > 0;");
        Due.row(second, 1, "HHM");
        int[] seconds = {10 + 90 + 90, 2, 3};
        for (int what = 0; what <= 2; what++) {
            Due.due("of the second one, " + what, second.foretold(1, 0, 100, what), seconds[what]);
        }
        // As hard as in each row of his: 70 50 in the second row, 80 60 in the third.
        HotHand hard = Due.with(1);
        Due.law(hard, 0, "hit 90; harder 10; guarded 20;");
        Due.row(hard, 0, "");
        for (int row = 1; row <= 2; row++) {
            hard.row(0);
            hard.thrown(row, true, 3 - row, 0);
            hard.thrown(row, false, 3 - row, 1);
        }
        Due.due("of his second row", hard.foretold(0, 70, 70, 2), 1);
        Due.due("of his second row", hard.foretold(0, 50, 50, 2), 1);
        Due.due("of his third row", hard.foretold(0, 80, 80, 2), 1);
        Due.due("of his third row", hard.foretold(0, 60, 60, 2), 1);
        Doc.at(36, "FORETOLD (CHANCES 0 to 100; the first above the other one: of no THROWS): together (what 0), HITS (1),"
                + " all (2).");
        for (int what = 0; what <= 2; what++) {
            Due.due("from just above, " + what, x.foretold(0, 60, 59, what), 0);
            Due.due("from far above, " + what, x.foretold(0, 100, 0, what), 0);
        }
        Due.due("without a law", x.foretold(1, 50, 50, 2), 1);
        Due.due("without a law", x.foretold(1, 51, 100, 2), 0);
        Due.due("without a law", x.foretold(1, 0, 49, 2), 0);
        Doc.at(36, "NONE: none such.");
        Edge.of("thrower", 0, 1, NONE, t -> x.foretold(t, 0, 100, 0));
        Edge.of("from", 0, 100, NONE, from -> x.foretold(0, from, 100, 0));
        Edge.of("to", 0, 100, NONE, to -> x.foretold(0, 0, to, 0));
        Edge.of("what", 0, 2, NONE, what -> x.foretold(0, 0, 100, what));
    }

    private static void heatOf(HotHand x, String law, int... due) {
        Due.due("a law", Due.law(x, 0, law) >= 0, true);
        for (int what = 0; what <= 3; what++) {
            Due.due("heat by '" + law + "', " + what, x.heat(0, what), due[what]);
        }
    }

    private static void heat() {
        HotHand x = Due.with(2);
        Due.row(x, 0, "HHHMH");
        Due.row(x, 0, "HMM");
        Due.row(x, 0, "");
        Due.row(x, 1, "HHHHHHHHH");
        Doc.at(Doc.TERMS, "HEAT: a THROWER's THROWS with a STATE above 0 ahead of them; HITS of these; how many rows of such"
                + " there are, one behind the other in a ROW; the longest.");
        heatOf(x, "", 0, 0, 0, 0);
        heatOf(x, "state 0;", 0, 0, 0, 0);
        // All but each row's first; 0 ahead of it parts the rows.
        heatOf(x, "state 1;", 6, 3, 2, 4);
        heatOf(x, "state 9;", 6, 3, 2, 4);
        heatOf(x, "state 1 if run > 0; state 0;", 4, 2, 2, 3);
        heatOf(x, "state 1 if place = 4;", 1, 1, 1, 1);
        heatOf(x, "state 1 if place = 5;", 0, 0, 0, 0);
        heatOf(x, "state 1 if place = 1; state 0;", 2, 1, 2, 1);
        // Two in one row.
        heatOf(x, "state 1 if place = 1 or place = 3 or place = 4; state 0;", 4, 2, 3, 2);
        HotHand y = Due.with(1);
        Due.row(y, 0, "H".repeat(24));
        heatOf(y, "state 1;", 23, 23, 1, 23);
        HotHand guarded = Due.with(1);
        guarded.row(0);
        guarded.thrown(0, true, 0, 1);
        guarded.thrown(0, true, 3, 0);
        guarded.thrown(0, false, 0, 2);
        guarded.thrown(0, true, 0, 0);
        heatOf(guarded, "state 1 if hard = 3; state 0;", 1, 0, 1, 1);
        heatOf(guarded, "state 1 if guard > 0; state 0;", 2, 2, 2, 1);
        Doc.at(37, "HEAT: THROWS (what 0), HITS (1), rows (2), the longest (3).");
        heatOf(x, "state 1 if miss > 0;", 2, 1, 2, 1);
        Due.due("another one's", x.heat(1, 0), 0);
        Doc.at(37, "NONE: none such.");
        Edge.of("thrower", 0, 1, NONE, t -> x.heat(t, 0));
        Edge.of("what", 0, 3, NONE, what -> x.heat(0, what));
    }
}
