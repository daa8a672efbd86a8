/** Promises 34, 35: games with the ball given to the hot one, and worlds dealt. */
public final class GamesTest {
    private static final long NO = -1_000_000_000_000L;

    public static void main(String[] args) {
        plain();
        given();
        guards();
        giveEdges();
        worlds();
        worldEdges();
        Due.end("GamesTest");
    }

    private static void game(String one, String other, int[] nkm, long[] due) {
        HotHand x = Due.with(2);
        Due.law(x, 0, one);
        Due.law(x, 1, other);
        String call = "game of " + one + " and " + other + " " + nkm[0] + " " + nkm[1] + " " + nkm[2];
        for (int what = 0; what < 4; what++) {
            Due.due(call + ", " + what, x.give(0, 1, nkm[0], nkm[1], nkm[2], what), due[what]);
        }
    }

    private static int[] of(int n, int k, int more) {
        return new int[] {n, k, more};
    }

    private static long[] due(long a, long b, long c, long d) {
        return new long[] {a, b, c, d};
    }

    private static void plain() {
        game("", "", of(8, 1, 0), due(4, 1, 4, 1));
        game("", "", of(1, 5, 3), due(1, 2, 1, 2));
        game("hit 100;", "hit 0;", of(4, 5, 0), due(2, 1, 2, 1));
        game("hit 100;", "hit 0;", of(3, 5, 0), due(2, 1, 2, 1));
        game("hit 0;", "hit 100;", of(3, 1, 0), due(1, 1, 1, 1));
        // Each by its own throws: both have place 0 first, then place 1.
        game("hit 100 if place = 0; hit 0;", "hit 100 if place = 1; hit 0;", of(4, 5, 0), due(2, 1, 2, 1));
        // 1/10, then 9/10 behind a HIT, 1/10 behind a miss: 0.1 + 0.18; the other one never.
        game("hit 90 if run > 0; hit 10;", "hit 0;", of(3, 5, 0), due(7, 25, 7, 25));
        game("hit 100 if state = 3; hit 50; state 3 if run > 0;", "hit 0;", of(3, 5, 0), due(5, 4, 5, 4));
        game("hit 1;", "hit 99;", of(8, 5, 0), due(4, 1, 4, 1));
    }

    private static void given() {
        game("hit 100;", "hit 0;", of(4, 1, 0), due(2, 1, 4, 1));
        game("hit 100;", "hit 0;", of(4, 2, 0), due(2, 1, 3, 1));
        game("hit 100;", "hit 0;", of(8, 5, 0), due(4, 1, 4, 1));
        game("hit 0;", "hit 100;", of(4, 1, 0), due(2, 1, 2, 1));
        // A HIT, then given: a miss; the third throw is his by turn.
        game("hit 100 if place = 0; hit 0;", "hit 100;", of(3, 1, 0), due(2, 1, 1, 1));
        game("hit 100 if place = 0; hit 0;", "hit 100;", of(4, 1, 0), due(3, 1, 2, 1));
        // By halves: 1/2, then of a HIT his half, of a miss the other one's 0.
        game("", "hit 0;", of(2, 1, 0), due(1, 2, 3, 4));
    }

    private static void guards() {
        game("hit 100; guarded 10;", "hit 0;", of(2, 1, 2), due(1, 1, 9, 5));
        game("hit 100; guard 2; guarded 10;", "hit 0;", of(2, 1, 3), due(4, 5, 34, 25));
        game("hit 100; guard 2; guarded 10;", "hit 0;", of(2, 1, 1), due(4, 5, 34, 25));
        // His third throw is his by turn anyhow, but guarded as well.
        game("hit 100 if place < 2; hit 0 if guard > 0; hit 100;", "hit 0;", of(3, 1, 1), due(2, 1, 2, 1));
        // The throw has those guards: the rules are asked with them.
        game("hit 7 if guard = 2; hit 100;", "hit 0;", of(2, 1, 2), due(1, 1, 107, 100));
        game("hit 100 if place < 2; hit 100 if state = 9; hit 0; state 9 if guard = 1;", "hit 0;", of(3, 1, 1),
                due(2, 1, 3, 1));
        // Guarded more at a run of k alone.
        game("hit 0 if guard > 0; hit 100;", "hit 100;", of(3, 2, 1), due(3, 1, 3, 1));
        game("hit 0 if guard > 0; hit 100;", "hit 100;", of(4, 2, 1), due(4, 1, 3, 1));
        game("hit 0 if guard > 0; hit 100;", "hit 100;", of(5, 2, 1), due(5, 1, 4, 1));
    }

    private static void giveEdges() {
        HotHand x = Due.with(3);
        Due.due("no such thrower", x.give(3, 1, 2, 1, 0, 0), HotHand.NONE);
        Due.due("no such thrower", x.give(-1, 1, 2, 1, 0, 0), HotHand.NONE);
        Due.due("no such thrower", x.give(0, 3, 2, 1, 0, 0), HotHand.NONE);
        Due.due("no such thrower", x.give(0, -1, 2, 1, 0, 0), HotHand.NONE);
        Due.due("alike", x.give(1, 1, 2, 1, 0, 0), HotHand.NONE);
        Due.due("n 0", x.give(0, 1, 0, 1, 0, 0), HotHand.NONE);
        Due.due("n 9", x.give(0, 1, 9, 1, 0, 0), HotHand.NONE);
        Due.due("k 0", x.give(0, 1, 2, 0, 0, 0), HotHand.NONE);
        Due.due("k 6", x.give(0, 1, 2, 6, 0, 0), HotHand.NONE);
        Due.due("guards -1", x.give(0, 1, 2, 1, -1, 0), HotHand.NONE);
        Due.due("guards 4", x.give(0, 1, 2, 1, 4, 0), HotHand.NONE);
        Due.due("what 4", x.give(0, 1, 2, 1, 0, 4), HotHand.NONE);
        Due.due("what -1", x.give(0, 1, 2, 1, 0, -1), HotHand.NONE);
        Due.row(x, 0, "HHHH");
        Due.law(x, 0, "hit 100 if hits > 0; hit 0;");
        Due.due("rows that are there don't matter", x.give(0, 1, 2, 1, 0, 0), 1);
        Due.due("rows that are there don't matter", x.give(0, 1, 2, 1, 0, 1), 2);
        Due.due("nothing done", x.count(2), 4);
    }

    private static void worlds() {
        HotHand x = Due.with(1);
        HotHand y = Due.with(1);
        String law = "hit 70 if run > 0; hit 30 if state = 1; hit 50; hard 1 if miss > 1; harder 9; state 1 if miss > 2;";
        Due.measure(x, "hits");
        Due.measure(x, "after hit 2");
        Due.measure(y, "hits");
        Due.measure(y, "after hit 2");
        Due.law(x, 0, law);
        Due.law(y, 0, law);
        x.seed(77);
        y.seed(77);
        int told = 0;
        for (int row = 0; row < 9; row++) {
            y.row(0);
            y.deal(row, 6);
            told += y.value(row, 1, 0) == NO ? 0 : 1;
        }
        for (int what = 0; what < 2; what++) {
            Due.due("as if dealt", x.worlds(0, 6, 9, 0, what), y.mean(0, 0, what));
            Due.due("as if dealt", x.worlds(0, 6, 9, 1, what), y.mean(0, 1, what));
        }
        Due.due("all have one", x.worlds(0, 6, 9, 0, 2), 9);
        Due.due("those that have one", x.worlds(0, 6, 9, 1, 2), told);
        Due.due("none kept", x.count(1) + x.count(2), 0);
        x.row(0);
        x.deal(0, 6);
        for (int k = 0; k < 6; k++) {
            Due.due("z stays", x.told(0, k, 0), y.told(0, k, 0));
        }
        Due.due("from z on", x.worlds(0, 6, 1, 0, 0), y.told(1, -1, 2));
    }

    private static void worldEdges() {
        HotHand x = Due.with(1);
        Due.measure(x, "after hit 1");
        Due.measure(x, "share");
        Due.due("none has one", x.worlds(0, 1, 5, 0, 0), NO);
        Due.due("none has one", x.worlds(0, 1, 5, 0, 1), NO);
        Due.due("none has one", x.worlds(0, 1, 5, 0, 2), 0);
        Due.law(x, 0, "hit 100;");
        Due.due("the most", x.worlds(0, 24, 60, 1, 0), 1);
        Due.due("the most", x.worlds(0, 24, 60, 1, 2), 60);
        Due.due("n 0", x.worlds(0, 0, 5, 1, 0), NO);
        Due.due("n 0", x.worlds(0, 0, 5, 1, 2), NO);
        Due.due("n 25", x.worlds(0, 25, 5, 1, 0), NO);
        Due.due("none", x.worlds(0, 5, 0, 1, 0), NO);
        Due.due("none", x.worlds(0, 5, 0, 1, 2), NO);
        Due.due("61", x.worlds(0, 5, 61, 1, 2), NO);
        Due.due("no such thrower", x.worlds(1, 5, 5, 1, 0), NO);
        Due.due("no such thrower", x.worlds(-1, 5, 5, 1, 0), NO);
        Due.due("no such measure", x.worlds(0, 5, 5, 2, 0), NO);
        Due.due("no such measure", x.worlds(0, 5, 5, -1, 2), NO);
        Due.due("what 3", x.worlds(0, 5, 5, 1, 3), NO);
        Due.due("what -1", x.worlds(0, 5, 5, 1, -1), NO);
    }
}
