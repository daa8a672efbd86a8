/** Promises 1, 3, 8 to 13: throwers, rows, throws told and dealt, and what is told of them. */
final class AtThrows {
    private static final int NONE = HotHand.NONE;

    private AtThrows() {
    }

    static void run() {
        limits();
        newObject();
        thrower();
        seed();
        row();
        thrown();
        deal();
        dealRefused();
        told();
        toldOfRow();
        next();
    }

    /** 12 THROWERS with so many ROWS of 24 THROWS' room, a measure, and z 5. */
    private static HotHand withRows(int rows) {
        HotHand x = Due.with(12);
        Due.measure(x, "hits");
        x.seed(5);
        for (int i = 0; i < rows; i++) {
            x.row(i % 12);
        }
        return x;
    }

    /** One THROWER with a law and one ROW of so many THROWS. */
    private static HotHand withThrows(int many) {
        HotHand x = Due.with(1);
        Due.measure(x, "share");
        Due.law(x, 0, "hit 60; hard 1; guard 2; state 1 if run > 0; state 0;");
        x.row(0);
        for (int i = 0; i < many; i++) {
            x.thrown(0, i % 3 == 0, i % 4, 3 - i % 4);
        }
        return x;
    }

    private static void limits() {
        Doc.at(Doc.TERMS, "THROWERS, up to 12.");
        Due.due("the twelfth", Due.with(11).thrower(), 11);
        Due.due("a thirteenth", Due.with(12).thrower(), NONE);
        Doc.at(Doc.TERMS, "ROWS, up to 60, each of a THROWER, of up to 24 THROWS:");
        Due.due("the sixtieth", withRows(59).row(11), 59);
        Due.due("a 61st", withRows(60).row(11), NONE);
        Due.due("60 of one thrower", ofOne(60).count(1), 60);
        Due.due("the 24th throw", withThrows(23).thrown(0, true, 0, 0), 24);
        Due.due("a 25th", withThrows(24).thrown(0, true, 0, 0), NONE);
        HotHand x = withRows(60);
        for (int i = 0; i < 24; i++) {
            x.thrown(59, true, 3, 3);
        }
        Due.due("of the last row, too", x.thrown(59, true, 3, 3), NONE);
        Due.due("the others have room", x.thrown(58, true, 3, 3), 1);
        Doc.at(Doc.TERMS, "each a HIT or a miss, HARD 0 to 3, with GUARDS 0 to 3.");
        Edge.of("hard", 0, 3, NONE, hard -> withThrows(1).thrown(0, true, hard, 0));
        Edge.of("guards", 0, 3, NONE, guard -> withThrows(1).thrown(0, false, 0, guard));
        Doc.at(Doc.TERMS, "The constants: `NONE = -1`: There is none.");
        Due.due("NONE", HotHand.NONE, -1);
    }

    private static HotHand ofOne(int rows) {
        HotHand x = Due.with(1);
        for (int i = 0; i < rows; i++) {
            x.row(0);
        }
        return x;
    }

    private static void newObject() {
        Doc.at(1, "No THROWERS, ROWS, MEASURES.");
        // What one object holds is none of another one's.
        withRows(60);
        HotHand x = new HotHand();
        for (int what = 0; what <= 6; what++) {
            Due.due("count " + what, x.count(what), 0);
        }
        for (int what = 10; what <= 21; what++) {
            Due.due("rules, " + what, x.count(what), 0);
        }
        Due.due("no thrower", x.row(0), NONE);
        Due.due("no thrower", x.law(0, 0), -2);
        Due.due("no thrower", x.together(0, 1), NONE);
        Due.due("no row", x.told(0, NONE, 1), NONE);
        Due.due("no row", x.next(0, 0), NONE);
        Due.due("no row", x.thrown(0, true, 0, 0), NONE);
        Due.due("no row", x.deal(0, 1), NONE);
        Due.due("no measure", x.lean(0, 1, 5, 0), Edge.NO);
        Due.due("no image", x.back(0), false);
        Due.due("the first thrower", x.thrower(), 0);
        Due.due("the first row", x.row(0), 0);
        Due.due("the first measure", Due.measure(x, "hits"), 0);
        Due.due("the first image", x.image(), 0);
    }

    private static void thrower() {
        Doc.at(3, "A THROWER: its number (its LAW is the one told for that number, if there was one).");
        HotHand x = new HotHand();
        x.image();
        for (int i = 0; i < 12; i++) {
            Due.due("its number", x.thrower(), i);
        }
        Due.law(x, 11, "hit 77;");
        Due.law(x, 0, "hit 11;");
        x.back(0);
        Due.due("no throwers", x.count(0), 0);
        for (int i = 0; i < 12; i++) {
            Due.due("its number", x.thrower(), i);
            x.row(i);
        }
        Due.due("the first one's law", x.next(0, 2), 11);
        Due.due("there was none", x.next(1, 2), 50);
        Due.due("the last one's law", x.next(11, 2), 77);
        Doc.at(3, "NONE, doing nothing: 12 are there.");
        Due.due("a thirteenth", x.thrower(), NONE);
        Due.due("throwers", x.count(0), 12);
        Due.due("no such thrower", x.row(12), NONE);
        Edge.leaves("a thirteenth", () -> withRows(3), NONE, HotHand::thrower);
    }

    private static HotHand seeded(int v) {
        HotHand x = withThrows(0);
        x.seed(v);
        return x;
    }

    private static void seed() {
        Doc.at(8, "z is that (0 to 999,999,999): true; false: none such.");
        Edge.of("z", 0, 999_999_999, 0, v -> new HotHand().seed(v) ? 1 : 0);
        for (int v : new int[] {0, 1, 999_999_999}) {
            HotHand x = seeded(v);
            AtDraws.dueDraws(x, 0, v);
        }
        for (int v : new int[] {-1, 1_000_000_000}) {
            Edge.leaves("seed " + v, () -> seeded(33), 0, x -> x.seed(v) ? 1 : 0);
            HotHand x = seeded(33);
            x.seed(v);
            AtDraws.dueDraws(x, 0, 33);
        }
        HotHand x = seeded(33);
        x.deal(0, 5);
        Due.due("z anew", x.seed(33), true);
        x.row(0);
        AtDraws.dueDraws(x, 1, 33);
    }

    private static void row() {
        Doc.at(9, "A ROW: its number.");
        HotHand x = Due.with(2);
        for (int i = 0; i < 60; i++) {
            Due.due("its number", x.row(i % 2), i);
        }
        Due.due("whose it is", x.told(59, NONE, 0), 1);
        Due.due("it's empty", x.told(59, NONE, 1), 0);
        Doc.at(9, "NONE, doing nothing: no such THROWER, 60 are there.");
        Edge.of("thrower", 0, 11, NONE, t -> withRows(0).row(t));
        Due.due("nobody's", new HotHand().row(0), NONE);
        Due.due("the sixtieth", withRows(59).row(0), 59);
        Due.due("a 61st", withRows(60).row(0), NONE);
        Edge.leaves("row of thrower 12", () -> withRows(2), NONE, y -> y.row(12));
        Edge.leaves("row of thrower -1", () -> withRows(2), NONE, y -> y.row(-1));
        Edge.leaves("a 61st row", () -> withRows(60), NONE, y -> y.row(0));
    }

    private static void thrown() {
        Doc.at(10, "A THROW more in a ROW: how many it has.");
        HotHand x = ofOne(2);
        for (int i = 1; i <= 24; i++) {
            Due.due("how many it has", x.thrown(1, i == 1 || i == 24, i % 4, (i + 2) % 4), i);
        }
        Due.due("the first", x.told(1, 0, 0), 1);
        Due.due("the second", x.told(1, 1, 0), 0);
        Due.due("the last", x.told(1, 23, 0), 1);
        Due.due("the last one's hard", x.told(1, 23, 1), 0);
        Due.due("the last one's guards", x.told(1, 23, 2), 2);
        Due.due("one ahead", x.told(1, 22, 1), 3);
        Due.due("the other row", x.told(0, NONE, 1), 0);
        Doc.at(10, "NONE, doing nothing: not as told, it has 24.");
        Edge.of("row", 0, 1, NONE, row -> ofOne(2).thrown(row, true, 0, 0));
        Edge.of("hard", 0, 3, NONE, hard -> ofOne(1).thrown(0, true, hard, 3));
        Edge.of("guards", 0, 3, NONE, guard -> ofOne(1).thrown(0, true, 3, guard));
        Due.due("the 24th", withThrows(23).thrown(0, true, 0, 0), 24);
        Edge.leaves("a 25th", () -> withThrows(24), NONE, y -> y.thrown(0, true, 0, 0));
        Edge.leaves("of row 1", () -> withThrows(3), NONE, y -> y.thrown(1, true, 0, 0));
        Edge.leaves("of row -1", () -> withThrows(3), NONE, y -> y.thrown(-1, true, 0, 0));
        Edge.leaves("hard 4", () -> withThrows(3), NONE, y -> y.thrown(0, true, 4, 0));
        Edge.leaves("hard -1", () -> withThrows(3), NONE, y -> y.thrown(0, true, -1, 0));
        Edge.leaves("guards 4", () -> withThrows(3), NONE, y -> y.thrown(0, true, 0, 4));
        Edge.leaves("guards -1", () -> withThrows(3), NONE, y -> y.thrown(0, true, 0, -1));
    }

    private static void deal() {
        Doc.at(11, "So many THROWS (1 to 24) are DEALT: HITS of them.");
        Edge.of("n", 1, 24, NONE, n -> withThrows(0).deal(0, n));
        HotHand x = withThrows(0);
        AtDraws.dueDraws(x, 0, 1);
        x = Due.with(1);
        x.row(0);
        Due.law(x, 0, "hit 100 if place < 20; hit 0;");
        Due.due("one", x.deal(0, 1), 1);
        Due.due("19 and 4", x.deal(0, 23), 19);
        Due.due("throws", x.told(0, NONE, 1), 24);
        Due.due("hits", x.told(0, NONE, 2), 20);
        // What was told ahead of those dealt counts as it stands.
        x = Due.with(1);
        Due.law(x, 0, "hit 100 if place = 3 and run = 1 and hits = 2; hit 100 if place = 4 and run = 2 and hits = 3; hit 0;");
        Due.row(x, 0, "HMH");
        Due.due("behind three told", x.deal(0, 2), 2);
        Due.due("behind five", x.deal(0, 5), 0);
    }

    private static void dealRefused() {
        Doc.at(11, "NONE, doing nothing: not as told, there would be more than 24.");
        for (int had = 0; had <= 24; had++) {
            HotHand x = withThrows(had);
            Due.due(had + " and one too many", x.deal(0, 25 - had), NONE);
            Due.due("nothing done", x.told(0, NONE, 1), had);
            if (had < 24) {
                Due.due(had + " and as many as there's room", x.deal(0, 24 - had) >= 0, true);
                Due.due("throws", x.told(0, NONE, 1), 24);
            }
        }
        Edge.of("row", 0, 0, NONE, row -> withThrows(2).deal(row, 2));
        Edge.leaves("of row 1", () -> withThrows(2), NONE, x -> x.deal(1, 2));
        Edge.leaves("of row -1", () -> withThrows(2), NONE, x -> x.deal(-1, 2));
        Edge.leaves("none", () -> withThrows(2), NONE, x -> x.deal(0, 0));
        Edge.leaves("25", () -> withThrows(0), NONE, x -> x.deal(0, 25));
        Edge.leaves("23 behind 2", () -> withThrows(2), NONE, x -> x.deal(0, 23));
        Edge.leaves("one behind 24", () -> withThrows(24), NONE, x -> x.deal(0, 1));
        // Added up, these would be beyond an int.
        Edge.leaves("very many", () -> withThrows(2), NONE, x -> x.deal(0, Integer.MAX_VALUE));
        Edge.leaves("far below 0", () -> withThrows(2), NONE, x -> x.deal(0, Integer.MIN_VALUE));
    }

    private static void told() {
        Doc.at(12, "Of a THROW (k from 0 on): 0 whether it's a HIT (1), 1 HARD, 2 GUARDS, 3 STATE ahead of it, 4 CHANCE,"
                + " 5 run, 6 miss, 7 hits.");
        HotHand x = Due.with(1);
        Due.law(x, 0, "hit 90; harder 9; guarded 2; state 6 if hits > 0;");
        x.row(0);
        x.thrown(0, false, 1, 2);
        x.thrown(0, false, 0, 1);
        x.thrown(0, true, 3, 0);
        x.thrown(0, true, 2, 3);
        x.thrown(0, false, 3, 3);
        int[][] due = {{0, 1, 2, 0, 77, 0, 0, 0}, {0, 0, 1, 0, 88, 0, 1, 0}, {1, 3, 0, 0, 63, 0, 2, 0},
            {1, 2, 3, 6, 66, 1, 0, 1}, {0, 3, 3, 6, 57, 2, 0, 2}};
        for (int k = 0; k < 5; k++) {
            for (int what = 0; what <= 7; what++) {
                Due.due("told(0, " + k + ", " + what + ")", x.told(0, k, what), due[k][what]);
            }
        }
        HotHand y = withThrows(24);
        Due.due("the last of 24", y.told(0, 23, 1), 3);
        Due.due("its hits ahead", y.told(0, 23, 7), 8);
        Due.due("its misses ahead", y.told(0, 23, 6), 1);
        Due.due("none behind it", y.told(0, 24, 0), NONE);
    }

    private static void toldOfRow() {
        HotHand x = Due.with(3);
        x.row(2);
        x.row(1);
        x.thrown(1, true, 0, 0);
        x.thrown(1, false, 0, 0);
        Doc.at(12, "Of k NONE: 0 THROWER, 1 THROWS, 2 HITS.");
        Due.due("thrower", x.told(0, NONE, 0), 2);
        Due.due("throws", x.told(0, NONE, 1), 0);
        Due.due("hits", x.told(0, NONE, 2), 0);
        Due.due("thrower", x.told(1, NONE, 0), 1);
        Due.due("throws", x.told(1, NONE, 1), 2);
        Due.due("hits", x.told(1, NONE, 2), 1);
        Doc.at(12, "NONE: none such.");
        Edge.of("row", 0, 1, NONE, row -> x.told(row, NONE, 1));
        Edge.of("row, of a throw", 1, 1, NONE, row -> x.told(row, 0, 0));
        Edge.of("k", -1, 1, NONE, k -> x.told(1, k, 1));
        Edge.of("k of an empty row", -1, -1, NONE, k -> x.told(0, k, 1));
        Edge.of("what of a throw", 0, 7, NONE, what -> x.told(1, 1, what));
        Edge.of("what of a row", 0, 2, NONE, what -> x.told(1, NONE, what));
    }

    private static void next() {
        Doc.at(13, "What comes next in a ROW by the LAW: HARD (what 0), GUARDS (1), CHANCE (2), STATE (3).");
        HotHand x = Due.with(1);
        Due.law(x, 0, "hard 2 if place = 0; hard 3; guard 1 if place = 0; hit 80; harder 5; guarded 1;"
                + " state 7 if hard = 1 and guard = 2; state 4 if place = 24;");
        x.row(0);
        int[] first = {2, 1, 69, 0};
        int[] second = {3, 0, 65, 7};
        int[] behindAll = {3, 0, 65, 4};
        for (int what = 0; what < 4; what++) {
            Due.due("of an empty row, " + what, x.next(0, what), first[what]);
        }
        x.thrown(0, true, 1, 2);
        for (int what = 0; what < 4; what++) {
            Due.due("behind one, " + what, x.next(0, what), second[what]);
        }
        x.deal(0, 23);
        for (int what = 0; what < 4; what++) {
            Due.due("behind 24, " + what, x.next(0, what), behindAll[what]);
        }
        Due.due("nothing is thrown", x.told(0, NONE, 1), 24);
        Doc.at(13, "NONE: none such.");
        Edge.of("row", 0, 0, NONE, row -> x.next(row, 0));
        Edge.of("what", 0, 3, NONE, what -> x.next(0, what));
    }
}
