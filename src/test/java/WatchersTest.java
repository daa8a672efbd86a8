/** Promises 31, 32, 33, 36, 37: hidden states, bets and their odds, what a law foretold, heat. */
public final class WatchersTest {
    public static void main(String[] args) {
        hidden();
        hiddenEdges();
        bets();
        betEdges();
        odds();
        oddsEdges();
        foretold();
        heat();
        Due.end("WatchersTest");
    }

    private static void hiddenOf(String letters, int stay, int hot, int cold, long path, long weight, long all) {
        HotHand x = Due.with(1);
        Due.row(x, 0, letters);
        String call = "hidden " + letters + " " + stay + " " + hot + " " + cold;
        Due.due(call + " path", x.hidden(0, stay, hot, cold, 0), path);
        Due.due(call + " weight", x.hidden(0, stay, hot, cold, 1), weight);
        Due.due(call + " all", x.hidden(0, stay, hot, cold, 2), all);
    }

    private static void hidden() {
        hiddenOf("H", 3, 9, 1, 1, 9, 10);
        hiddenOf("M", 3, 9, 1, 0, 9, 10);
        // cold cold 72, hot cold 162, cold hot 2, hot hot 72.
        hiddenOf("HM", 8, 9, 1, 1, 162, 308);
        hiddenOf("MH", 8, 9, 1, 2, 162, 308);
        hiddenOf("HHM", 10, 8, 3, 7, 12_800, 12_800 + 6_300);
        hiddenOf("HMM", 0, 10, 0, 0, 0, 0);
        hiddenOf("HMH", 0, 10, 0, 5, 100_000, 100_000);
        hiddenOf("HM", 5, 5, 5, 0, 125, 500);
        hiddenOf("MM", 10, 0, 10, 3, 1000, 1000);
        hiddenOf("HHHHHHHHH", 10, 10, 10, 0, 100_000_000_000_000_000L, 200_000_000_000_000_000L);
        hiddenOf("HHHHHHHHH", 10, 10, 9, 511, 100_000_000_000_000_000L, 100_000_000_000_000_000L + 38_742_048_900_000_000L);
    }

    private static void hiddenEdges() {
        HotHand x = Due.with(1);
        Due.row(x, 0, "");
        Due.row(x, 0, "HHHHHHHHHH");
        Due.row(x, 0, "H");
        Due.due("empty", x.hidden(0, 5, 5, 5, 0), HotHand.NONE);
        Due.due("of 10", x.hidden(1, 5, 5, 5, 0), HotHand.NONE);
        Due.due("no such row", x.hidden(3, 5, 5, 5, 0), HotHand.NONE);
        Due.due("no such row", x.hidden(-1, 5, 5, 5, 0), HotHand.NONE);
        Due.due("stay 11", x.hidden(2, 11, 5, 5, 0), HotHand.NONE);
        Due.due("stay -1", x.hidden(2, -1, 5, 5, 0), HotHand.NONE);
        Due.due("hot 11", x.hidden(2, 5, 11, 5, 0), HotHand.NONE);
        Due.due("hot -1", x.hidden(2, 5, -1, 5, 0), HotHand.NONE);
        Due.due("cold 11", x.hidden(2, 5, 5, 11, 0), HotHand.NONE);
        Due.due("cold -1", x.hidden(2, 5, 5, -1, 0), HotHand.NONE);
        Due.due("what 3", x.hidden(2, 5, 5, 5, 3), HotHand.NONE);
        Due.due("what -1", x.hidden(2, 5, 5, 5, -1), HotHand.NONE);
    }

    private static void betsOf(HotHand x, String belief, int onHit, int rightHit, int onMiss, int rightMiss) {
        Due.belief(x, 1, belief);
        Due.due("bets on a HIT by " + belief, x.bets(1, 0, 0), onHit);
        Due.due("right ones by " + belief, x.bets(1, 0, 1), rightHit);
        Due.due("bets on a miss by " + belief, x.bets(1, 0, 2), onMiss);
        Due.due("right ones by " + belief, x.bets(1, 0, 3), rightMiss);
    }

    private static void bets() {
        HotHand x = Due.with(2);
        Due.row(x, 0, "HHMH");
        Due.row(x, 1, "HHHHHH");
        int row = x.row(0);
        x.thrown(row, true, 2, 3);
        x.thrown(row, false, 0, 0);
        Due.due("no belief, no bet", x.bets(1, 0, 0), 0);
        betsOf(x, "hit;", 6, 4, 0, 0);
        betsOf(x, "miss;", 0, 0, 6, 2);
        betsOf(x, "pass; hit;", 0, 0, 0, 0);
        betsOf(x, "hit if run > 0; miss;", 3, 1, 3, 0);
        betsOf(x, "pass if place = 0; hit if run > 0; miss;", 3, 1, 1, 0);
        betsOf(x, "hit if hard = 2 and guard = 3;", 1, 1, 0, 0);
        betsOf(x, "miss if hits = 2; hit if place = 0;", 2, 2, 2, 1);
        Due.law(x, 0, "state 4 if run > 1;");
        betsOf(x, "hit if state = 4;", 2, 1, 0, 0);
        Due.law(x, 0, "");
        betsOf(x, "hit if state = 4;", 0, 0, 0, 0);
    }

    private static void betEdges() {
        HotHand x = Due.with(1);
        Due.due("no throws", x.bets(0, 0, 0), 0);
        Due.due("no such watcher", x.bets(4, 0, 0), HotHand.NONE);
        Due.due("no such watcher", x.bets(-1, 0, 0), HotHand.NONE);
        Due.due("no such thrower", x.bets(0, 1, 0), HotHand.NONE);
        Due.due("no such thrower", x.bets(0, -1, 0), HotHand.NONE);
        Due.due("what 4", x.bets(0, 0, 4), HotHand.NONE);
        Due.due("what -1", x.bets(0, 0, -1), HotHand.NONE);
        Due.due("the last watcher", x.bets(3, 0, 3), 0);
    }

    private static void odds() {
        HotHand x = Due.with(2);
        Due.row(x, 0, "HHMH");
        Due.row(x, 0, "HM");
        // 6 throws, 4 hits; 3 bets, 1 right: all but those with none right, which can't be.
        Due.belief(x, 0, "hit if run > 0;");
        Due.due("at least", x.odds(0, 0, 0), 20);
        Due.due("all", x.odds(0, 0, 1), 20);
        // 2 bets, 2 right: 6 of 15.
        Due.belief(x, 1, "hit if place = 0;");
        Due.due("at least", x.odds(1, 0, 0), 6);
        Due.due("all", x.odds(1, 0, 1), 15);
        // Bets on a miss are none of these.
        Due.belief(x, 2, "miss if place > 0; hit;");
        Due.due("at least", x.odds(2, 0, 0), 6);
        Due.due("no bets", x.odds(3, 0, 0), 1);
        Due.due("no bets", x.odds(3, 0, 1), 1);
        Due.due("no throws", x.odds(0, 1, 0), 1);
        Due.due("no throws", x.odds(0, 1, 1), 1);
        Due.due("what 2", x.odds(0, 0, 2), HotHand.NONE);
        Due.due("what -1", x.odds(0, 0, -1), HotHand.NONE);
        Due.due("no such watcher", x.odds(4, 0, 0), HotHand.NONE);
        Due.due("no such watcher", x.odds(-1, 0, 0), HotHand.NONE);
        Due.due("no such thrower", x.odds(0, 2, 0), HotHand.NONE);
        Due.due("no such thrower", x.odds(0, -1, 0), HotHand.NONE);
    }

    private static void oddsEdges() {
        HotHand x = Due.with(1);
        Due.law(x, 0, "hit 100 if place < 12; hit 0;");
        for (int i = 0; i < 3; i++) {
            x.row(0);
            x.deal(i, i < 2 ? 24 : 12);
        }
        Due.belief(x, 0, "hit if place > 11 or hits < 2;");
        // 60 throws, 36 hits; 30 bets: 6 right ones.
        Due.due("bets", x.bets(0, 0, 0), 30);
        Due.due("right", x.bets(0, 0, 1), 6);
        Due.due("all of 60", x.odds(0, 0, 1), 118_264_581_564_861_424L);
        Due.due("at least 6 are right anyhow", x.odds(0, 0, 0), 118_264_581_564_861_424L);
        x.deal(2, 1);
        Due.due("61 throws", x.odds(0, 0, 1), HotHand.NONE);
        Due.due("61 throws", x.odds(0, 0, 0), HotHand.NONE);
        Due.due("bets are told", x.bets(0, 0, 0), 31);
    }

    private static void foretold() {
        HotHand x = Due.with(2);
        Due.row(x, 0, "HHMH");
        Due.row(x, 0, "MH");
        Due.row(x, 1, "HHH");
        Due.law(x, 0, "hit 80 if run > 0; hit 20 if miss > 0; hit 60;");
        // 60 80 80 20 and 60 20.
        Due.due("all together", x.foretold(0, 0, 100, 0), 320);
        Due.due("hits", x.foretold(0, 0, 100, 1), 4);
        Due.due("all", x.foretold(0, 0, 100, 2), 6);
        Due.due("both in", x.foretold(0, 60, 80, 0), 280);
        Due.due("both in", x.foretold(0, 60, 80, 1), 2);
        Due.due("both in", x.foretold(0, 60, 80, 2), 4);
        Due.due("just one", x.foretold(0, 20, 20, 1), 2);
        Due.due("between", x.foretold(0, 21, 59, 2), 0);
        Due.due("the first above the other", x.foretold(0, 61, 60, 2), 0);
        Due.due("without a law", x.foretold(1, 50, 50, 2), 3);
        Due.due("0 to 0", x.foretold(1, 0, 0, 2), 0);
        Due.due("100 to 100", x.foretold(1, 100, 100, 2), 0);
        Due.due("100 to 0", x.foretold(1, 100, 0, 1), 0);
        Due.law(x, 1, "hit 100 if place = 0; hit 0;");
        Due.due("0 to 0", x.foretold(1, 0, 0, 2), 2);
        Due.due("100 to 100", x.foretold(1, 100, 100, 0), 100);
        Due.due("from -1", x.foretold(0, -1, 100, 0), HotHand.NONE);
        Due.due("from 101", x.foretold(0, 101, 100, 0), HotHand.NONE);
        Due.due("to 101", x.foretold(0, 0, 101, 0), HotHand.NONE);
        Due.due("to -1", x.foretold(0, 0, -1, 0), HotHand.NONE);
        Due.due("no such thrower", x.foretold(2, 0, 100, 0), HotHand.NONE);
        Due.due("no such thrower", x.foretold(-1, 0, 100, 0), HotHand.NONE);
        Due.due("what 3", x.foretold(0, 0, 100, 3), HotHand.NONE);
        Due.due("what -1", x.foretold(0, 0, 100, -1), HotHand.NONE);
    }

    private static void heat() {
        HotHand x = Due.with(2);
        Due.law(x, 0, "state 2 if run > 0; state 0 if miss > 0;");
        // Hot ahead of: 1, 2, 4 of the first; 1, 2, 3 of the second; none of the third.
        Due.row(x, 0, "HHMHM");
        Due.row(x, 0, "HHHM");
        Due.row(x, 0, "M");
        Due.due("throws", x.heat(0, 0), 6);
        Due.due("hits", x.heat(0, 1), 3);
        Due.due("rows of them", x.heat(0, 2), 3);
        Due.due("the longest", x.heat(0, 3), 3);
        for (int what = 0; what <= 3; what++) {
            Due.due("nothing", x.heat(1, what), 0);
        }
        Due.law(x, 0, "state 1;");
        Due.due("all but the first ones", x.heat(0, 0), 7);
        Due.due("all but the first ones", x.heat(0, 2), 2);
        Due.due("all but the first ones", x.heat(0, 3), 4);
        Due.due("what 4", x.heat(0, 4), HotHand.NONE);
        Due.due("what -1", x.heat(0, -1), HotHand.NONE);
        Due.due("no such thrower", x.heat(2, 0), HotHand.NONE);
        Due.due("no such thrower", x.heat(-1, 0), HotHand.NONE);
    }
}
