/** Promises 34, 35: games with the ball given to the hot one, and worlds. */
final class AtGames {
    private static final int NONE = HotHand.NONE;
    private static final long NO = Edge.NO;

    private AtGames() {
    }

    static void run() {
        plain();
        given();
        guards();
        give();
        worlds();
        worldsNotKept();
        worldsRefused();
    }

    private static HotHand two(String one, String other) {
        HotHand x = Due.with(2);
        Due.law(x, 0, one);
        Due.law(x, 1, other);
        return x;
    }

    /** The plain game, and the one with the ball given, as upper and lower numbers. */
    private static void game(HotHand x, int n, int k, int more, long... due) {
        for (int what = 0; what <= 3; what++) {
            Due.due("give(0, 1, " + n + ", " + k + ", " + more + ", " + what + ")", x.give(0, 1, n, k, more, what), due[what]);
        }
    }

    private static void plain() {
        Doc.at(Doc.TERMS, "GAME of n (1 to 8) by two THROWERS, in turns; each by its own LAW and THROWS of the GAME.");
        HotHand x = two("hit 100;", "hit 0;");
        for (int n = 1; n <= 8; n++) {
            Due.due("the first one's throws of " + n, x.give(0, 1, n, 5, 0, 0), (n + 1) / 2);
            Due.due("the other one first, of " + n, x.give(1, 0, n, 5, 0, 0), n / 2);
        }
        // Each is asked by its own throws: place 3 is the fourth of each.
        x = two("hit 100 if place = 3; hit 0;", "hit 0;");
        game(x, 6, 5, 0, 0, 1, 0, 1);
        game(x, 7, 5, 0, 1, 1, 1, 1);
        x = two("hit 0;", "hit 100 if place = 3; hit 0;");
        game(x, 7, 5, 0, 0, 1, 0, 1);
        game(x, 8, 5, 0, 1, 1, 1, 1);
        game(two("hit 100;", "hit 100 if run = 0; hit 0;"), 8, 5, 0, 6, 1, 6, 1);
        game(two("hit 100;", "hit 100 if state = 1; hit 0; state 1 if place = 1;"), 4, 5, 0, 3, 1, 3, 1);
        // All that is asked is each one's own.
        game(two("hit 0 if place < 2; hit 100 if miss = 2; hit 0;", "hit 0;"), 5, 5, 0, 1, 1, 1, 1);
        game(two("hit 100 if place < 2; hit 100 if hits = 2; hit 0;", "hit 0;"), 5, 5, 0, 3, 1, 3, 1);
        game(two("hit 0 if place = 1; hit 100 if hits < 2; hit 0;", "hit 0;"), 8, 5, 0, 2, 1, 2, 1);
        game(two("hit 0;", "hit 100 if place = 0; hit 100 if place = 2 and hits = 1; hit 0;"), 8, 5, 0, 2, 1, 2, 1);
        game(two("hit 100 if place = 0; hit 100 if place = 2 and miss = 1 and run = 0; hit 0;", "hit 0;"), 8, 5, 0, 2, 1, 2, 1);
        game(two("hit 0;", "hit 100 if place = 0; hit 100 if place = 2 and miss = 1; hit 0;"), 8, 5, 0, 2, 1, 2, 1);
        x = two("hit 0;", "hit 0 if place = 0; hit 100 if place < 3; hit 100 if run = 2 and miss = 0; hit 0;");
        game(x, 8, 5, 0, 3, 1, 3, 1);
        game(two("hit 100 if state = 3; hit 0; hard 2; state 3 if hard = 2;", "hit 0;"), 3, 5, 0, 1, 1, 1, 1);
        game(two("hit 0;", "hit 100 if state = 3; hit 0; guard 2; state 3 if guard = 2;"), 4, 5, 0, 1, 1, 1, 1);
        game(two("hit 0;", "hit 0 if place < 3; hit 100 if miss = 3; hit 0;"), 8, 5, 0, 1, 1, 1, 1);
        game(two("", ""), 1, 1, 0, 1, 2, 1, 2);
        game(two("", ""), 8, 1, 0, 4, 1, 4, 1);
        game(two("hit 1;", "hit 3;"), 2, 1, 0, 1, 25, 199, 5000);
        // THROWS of ROWS are none of the GAME's.
        x = two("hit 100 if hits = 0; hit 0;", "hit 0;");
        Due.row(x, 0, "HHH");
        game(x, 1, 1, 0, 1, 1, 1, 1);
        Due.due("nothing is thrown", x.count(2), 3);
    }

    private static void given() {
        Doc.at(Doc.TERMS, "GIVEN: whenever the first one's run is k (1 to 5) at least, it's his throw, with so many GUARDS"
                + " more (3 at most in all):");
        HotHand x = two("hit 100;", "hit 0;");
        game(x, 1, 1, 0, 1, 1, 1, 1);
        game(x, 2, 1, 0, 1, 1, 2, 1);
        game(x, 8, 1, 0, 4, 1, 8, 1);
        // Turns 0, 2 are his; his run is 2 ahead of turn 3, and so on.
        game(x, 3, 2, 0, 2, 1, 2, 1);
        game(x, 4, 2, 0, 2, 1, 3, 1);
        game(x, 8, 2, 0, 4, 1, 7, 1);
        game(x, 8, 3, 0, 4, 1, 6, 1);
        game(x, 7, 4, 0, 4, 1, 4, 1);
        game(x, 8, 4, 0, 4, 1, 5, 1);
        // A run of 5 can't come ahead of the last of 8 turns.
        game(x, 8, 5, 0, 4, 1, 4, 1);
        // The other one's run doesn't count.
        game(two("hit 0;", "hit 100;"), 8, 1, 0, 4, 1, 4, 1);
        // A miss of a given throw ends the run: the next turns are as ever.
        game(two("hit 100 if place = 0; hit 0;", "hit 100;"), 4, 1, 0, 3, 1, 2, 1);
    }

    private static void guards() {
        HotHand x = two("hit 100; guarded 10;", "hit 0;");
        game(x, 2, 1, 0, 1, 1, 2, 1);
        game(x, 2, 1, 1, 1, 1, 19, 10);
        game(x, 2, 1, 3, 1, 1, 17, 10);
        // 2 by the law and 1, 2 or 3 more are 3 in all.
        x = two("hit 100; guard 2 if place = 1; guarded 10;", "hit 0;");
        game(x, 2, 1, 0, 1, 1, 9, 5);
        game(x, 2, 1, 1, 1, 1, 17, 10);
        game(x, 2, 1, 2, 1, 1, 17, 10);
        game(x, 2, 1, 3, 1, 1, 17, 10);
        // Below his run of k there are none more; at it, even in his own turn.
        x = two("hit 0 if guard > 0; hit 100;", "hit 100;");
        game(x, 3, 3, 3, 3, 1, 3, 1);
        game(x, 3, 2, 3, 3, 1, 3, 1);
        game(x, 3, 1, 3, 3, 1, 2, 1);
        x = two("hit 0 if guard > 0 and place = 2; hit 100;", "hit 0;");
        game(x, 3, 1, 1, 2, 1, 2, 1);
        game(x, 3, 1, 0, 2, 1, 3, 1);
        // Behind it STATE is asked with these guards, too.
        game(two("hit 100 if place < 2; hit 100 if state = 3; hit 0; state 3 if guard = 3;", "hit 0;"), 3, 1, 3, 2, 1, 3, 1);
        Doc.at(Doc.TERMS, "HITS in the mean, plain and GIVEN.");
        // His half; behind his HIT his half again, else the other one's quarter.
        game(two("", "hit 25;"), 2, 1, 0, 3, 4, 7, 8);
    }

    private static void give() {
        Doc.at(34, "GAME: plain: the upper number (what 0), the lower one (1); GIVEN (2, 3), each in lowest terms.");
        game(two("hit 50;", "hit 0;"), 2, 1, 0, 1, 2, 3, 4);
        game(two("hit 0;", "hit 0;"), 8, 1, 3, 0, 1, 0, 1);
        game(two("hit 99;", "hit 99;"), 8, 5, 0, 198, 25, 198, 25);
        Doc.at(34, "NONE: none such (THROWERS unlike, GUARDS 0 to 3).");
        HotHand x = Due.with(3);
        for (int what = 0; what <= 3; what++) {
            int w = what;
            Edge.of("one", 1, 2, NONE, one -> one == 0 ? NONE : x.give(one, 0, 2, 1, 0, w));
            Edge.of("other", 0, 1, NONE, other -> other == 2 ? NONE : x.give(2, other, 2, 1, 0, w));
            Due.due("no such other", x.give(0, 3, 2, 1, 0, what), NONE);
            Due.due("alike", x.give(0, 0, 2, 1, 0, what), NONE);
            Due.due("alike", x.give(2, 2, 2, 1, 0, what), NONE);
            Edge.of("n", 1, 8, NONE, n -> x.give(0, 1, n, 1, 0, w));
            Edge.of("k", 1, 5, NONE, k -> x.give(0, 1, 2, k, 0, w));
            Edge.of("guards", 0, 3, NONE, more -> x.give(0, 1, 2, 1, more, w));
        }
        Edge.of("what", 0, 3, NONE, what -> x.give(0, 1, 2, 1, 0, what));
    }

    /** Thrower 0 by a law, with measures "hits", "after hit 1" and z 99. */
    private static HotHand world(String law) {
        HotHand x = Due.with(1);
        Due.measure(x, "hits");
        Due.measure(x, "after hit 1");
        Due.law(x, 0, law);
        x.seed(99);
        return x;
    }

    private static void worlds() {
        Doc.at(Doc.TERMS, "WORLDS: so many rows (1 to 60) of n THROWS (1 to 24) DEALT by a THROWER's LAW one behind the other,"
                + " from z on, none of them kept (z stays): the MEAN of a MEASURE of those that have a VALUE.");
        String law = "hit 80 if run > 0; hit 30 if state = 1; hit 40; hard 1 if miss > 0; harder 7; state 1 if place = 2;";
        int[][] sizes = {{1, 1}, {1, 60}, {24, 1}, {24, 2}, {2, 60}, {5, 17}, {24, 15}};
        for (int[] size : sizes) {
            HotHand x = world(law);
            HotHand y = world(law);
            int told = 0;
            for (int row = 0; row < size[1]; row++) {
                y.row(0);
                y.deal(row, size[0]);
                told += y.value(row, 1, 1) == NO ? 0 : 1;
            }
            for (int what = 0; what < 2; what++) {
                Due.due("hits of " + size[1] + " of " + size[0], x.worlds(0, size[0], size[1], 0, what), y.mean(0, 0, what));
                Due.due("behind hits", x.worlds(0, size[0], size[1], 1, what), y.mean(0, 1, what));
            }
            Due.due("how many", x.worlds(0, size[0], size[1], 0, 2), size[1]);
            Due.due("how many have a value", x.worlds(0, size[0], size[1], 1, 2), told);
        }
        HotHand x = world("hit 100 if place < 23; hit 0;");
        Due.due("the most", x.worlds(0, 24, 60, 0, 0), x.worlds(0, 24, 60, 0, 1), 23, 1);
    }

    private static void worldsNotKept() {
        HotHand x = world("");
        HotHand y = world("");
        x.worlds(0, 24, 60, 0, 0);
        x.worlds(0, 24, 60, 1, 2);
        Due.due("no rows", x.count(1), 0);
        Due.due("no throws", x.count(2), 0);
        x.row(0);
        y.row(0);
        Due.due("z stays", x.deal(0, 24), y.deal(0, 24));
        for (int k = 0; k < 24; k++) {
            Due.due("z stays", x.told(0, k, 0), y.told(0, k, 0));
        }
        // With 60 rows there's room for worlds, too.
        HotHand full = world("hit 100;");
        for (int i = 0; i < 60; i++) {
            full.row(0);
        }
        Due.due("with all rows there", full.worlds(0, 24, 60, 0, 0), 24);
    }

    private static void worldsRefused() {
        Doc.at(35, "WORLDS: MEAN's upper number (what 0), its lower one (1), how many have a VALUE (2).");
        HotHand x = world("hit 100;");
        Due.due("upper", x.worlds(0, 3, 4, 0, 0), 3);
        Due.due("lower", x.worlds(0, 3, 4, 0, 1), 1);
        Due.due("how many", x.worlds(0, 3, 4, 0, 2), 4);
        Doc.at(35, "-1,000,000,000,000: none such; of what 0, 1: none has.");
        for (int what = 0; what <= 2; what++) {
            int w = what;
            Edge.of("thrower", 0, 0, NO, t -> x.worlds(t, 5, 5, 0, w));
            Edge.of("n", 1, 24, NO, n -> x.worlds(0, n, 5, 0, w));
            Edge.of("many", 1, 60, NO, many -> x.worlds(0, 5, many, 0, w));
            Edge.of("measure", 0, 1, NO, measure -> x.worlds(0, 5, 5, measure, w));
        }
        Edge.of("what", 0, 2, NO, what -> x.worlds(0, 5, 5, 0, what));
        Due.due("none of one throw", x.worlds(0, 1, 60, 1, 0), NO);
        Due.due("none of one throw", x.worlds(0, 1, 60, 1, 1), NO);
        Due.due("none of one throw", x.worlds(0, 1, 60, 1, 2), 0);
        Due.due("all of two throws", x.worlds(0, 2, 60, 1, 2), 60);
    }
}
