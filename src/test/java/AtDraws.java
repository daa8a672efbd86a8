import java.math.BigInteger;

/** The terms about throws: what is asked ahead of one, HARD, GUARDS, CHANCE and STATE by a law, and what is dealt. */
final class AtDraws {
    private static final BigInteger TIMES = new BigInteger("6364136223846793005");
    private static final BigInteger PLUS = new BigInteger("1442695040888963407");
    private static final BigInteger WRAP = BigInteger.ONE.shiftLeft(64);

    private AtDraws() {
    }

    static void run() {
        asked();
        state();
        without();
        hard();
        guards();
        chance();
        held();
        stateBehind();
        thatWas();
        law();
        drawsAtTheirChance();
        oneDrawAThrow();
    }

    private static BigInteger next(BigInteger z) {
        return z.multiply(TIMES).add(PLUS).mod(WRAP);
    }

    private static int draw(BigInteger z) {
        return z.shiftRight(33).mod(BigInteger.valueOf(100)).intValue();
    }

    /** Fills an empty ROW of THROWER 0 by draws from z on, each just at its CHANCE: a miss, or just below: a HIT. */
    static void dueDraws(HotHand x, int row, int from) {
        BigInteger z = BigInteger.valueOf(from);
        for (int k = 0; k < 24; k++) {
            z = next(z);
            int chance = draw(z) + k % 2;
            Due.law(x, 0, "hit " + chance + ";");
            Due.due("z from " + from + ", draw " + (k + 1) + " by " + chance, x.deal(row, 1), k % 2);
        }
    }

    /** Whether a condition holds ahead of a THROW of row 0. */
    private static void asks(HotHand x, int k, String condition) {
        Due.due("law", Due.law(x, 0, "hit 1 if " + condition + "; hit 0; state 3 if place = 2; state 5 if place = 4;"), 4);
        Due.due("ahead of " + k + ": " + condition, x.told(0, k, 4), 1);
    }

    private static void asked() {
        Doc.at(Doc.TERMS, "ASKED ahead of a THROW of a ROW: run: HITS one behind the other just ahead of it;"
                + " miss: misses likewise;");
        HotHand x = Due.with(1);
        Due.row(x, 0, "HHMMMHHH");
        String[] due = {"run = 0 and miss = 0", "run = 1 and miss = 0", "run = 2 and miss = 0", "run = 0 and miss = 1",
            "run = 0 and miss = 2", "run = 0 and miss = 3", "run = 1 and miss = 0", "run = 2 and miss = 0"};
        for (int k = 0; k < due.length; k++) {
            asks(x, k, due[k]);
        }
        Due.law(x, 0, "hit 1 if run = 3; hit 0;");
        Due.due("ahead of the next", x.next(0, 2), 1);
        x = Due.with(1);
        Due.row(x, 0, "HH");
        Due.row(x, 0, "H");
        Due.due("another row isn't ahead", x.told(1, 0, 5), 0);
        x = Due.with(1);
        Due.row(x, 0, "H".repeat(24));
        Due.due("the most ahead of a throw", x.told(0, 23, 5), 23);
        Due.law(x, 0, "hit 1 if run = 24; hit 0;");
        Due.due("ahead of the next", x.next(0, 2), 1);
        Doc.at(Doc.TERMS, "place: how many THROWS are ahead; hits: of these; hard, guard.");
        x = Due.with(1);
        Due.row(x, 0, "HMH");
        x.thrown(0, true, 3, 1);
        x.thrown(0, true, 0, 3);
        asks(x, 0, "place = 0 and hits = 0");
        asks(x, 1, "place = 1 and hits = 1");
        asks(x, 2, "place = 2 and hits = 1");
        asks(x, 3, "place = 3 and hits = 2 and hard = 3 and guard = 1");
        asks(x, 4, "place = 4 and hits = 3 and hard = 0 and guard = 3");
    }

    private static void state() {
        Doc.at(Doc.TERMS, "state: STATE (0 ahead of a ROW's first);");
        HotHand x = Due.with(1);
        Due.row(x, 0, "HMHMH");
        Due.row(x, 0, "H");
        asks(x, 0, "state = 0");
        asks(x, 1, "state = 0");
        asks(x, 2, "state = 3");
        asks(x, 3, "state = 3");
        asks(x, 4, "state = 5");
        Due.law(x, 0, "state 9;");
        Due.due("ahead of the first", x.told(0, 0, 3), 0);
        Due.due("ahead of the second", x.told(0, 1, 3), 9);
        Due.due("ahead of another row's first", x.told(1, 0, 3), 0);
        x.row(0);
        Due.due("ahead of an empty row's first", x.next(2, 3), 0);
    }

    private static void without() {
        Doc.at(Doc.TERMS, "By a LAW (a THROWER without one has an empty one):");
        HotHand x = Due.with(2);
        x.row(0);
        x.row(1);
        Due.law(x, 1, "");
        int[] due = {0, 0, 50, 0};
        for (int what = 0; what < 4; what++) {
            Due.due("without a law, " + what, x.next(0, what), due[what]);
            Due.due("with an empty one, " + what, x.next(1, what), due[what]);
        }
        x.thrown(0, true, 3, 3);
        Due.due("the chance of a hard throw without a law", x.told(0, 0, 4), 50);
        Due.due("the state behind it", x.next(0, 3), 0);
    }

    private static void nextIs(String law, int what, int due) {
        HotHand x = Due.with(1);
        Due.row(x, 0, "HH");
        Due.due("a law", Due.law(x, 0, law) > 0, true);
        Due.due("by '" + law + "', " + what, x.next(0, what), due);
    }

    private static void hard() {
        Doc.at(Doc.TERMS, "HARD is what the first \"hard\" tells that holds (0 without; asked with hard 0, guard 0);");
        nextIs("hard 1 if run = 1; hard 2 if run = 2; hard 3 if run = 2;", 0, 2);
        nextIs("hard 0; hard 3;", 0, 0);
        nextIs("hard 3 if run = 1;", 0, 0);
        nextIs("hit 3; guard 3; state 3; harder 3; guarded 3;", 0, 0);
        nextIs("hard 2 if hard = 0 and guard = 0; hard 3;", 0, 2);
        nextIs("guard 1; hard 2 if guard = 0; hard 3;", 0, 2);
        nextIs("hard 2; hard 3 if hard = 2;", 0, 2);
        // The last throw's are none of these.
        HotHand x = Due.with(1);
        x.row(0);
        x.thrown(0, true, 2, 1);
        Due.law(x, 0, "hard 3 if hard > 0 or guard > 0;");
        Due.due("not with those of the throw ahead", x.next(0, 0), 0);
    }

    private static void guards() {
        Doc.at(Doc.TERMS, "then GUARDS by the first \"guard\" (0; asked with guard 0);");
        nextIs("guard 1 if run = 1; guard 2 if run = 2; guard 3 if run = 2;", 1, 2);
        nextIs("guard 3 if run = 1;", 1, 0);
        nextIs("hit 3; hard 3; state 3; harder 3; guarded 3;", 1, 0);
        nextIs("guard 2 if guard = 0; guard 3;", 1, 2);
        nextIs("guard 1 if hard = 3; guard 2; hard 3;", 1, 1);
        HotHand x = Due.with(1);
        x.row(0);
        x.thrown(0, true, 2, 1);
        Due.law(x, 0, "guard 3 if guard > 0 or hard > 0;");
        Due.due("not with those of the throw ahead", x.next(0, 1), 0);
    }

    private static void chance() {
        Doc.at(Doc.TERMS, "CHANCE by the first \"hit\" (50), less \"harder\" (the last that's told; 0) times HARD and"
                + " \"guarded\" (likewise) times GUARDS,");
        nextIs("hit 10 if run = 1; hit 20 if run = 2; hit 30;", 2, 20);
        nextIs("hit 10 if run = 1;", 2, 50);
        nextIs("hit 70 if hard = 3 and guard = 2; hard 3; guard 2;", 2, 70);
        nextIs("hard 3; guard 3;", 2, 50);
        nextIs("hard 3; harder 7; guarded 9;", 2, 29);
        nextIs("guard 3; harder 9; guarded 7;", 2, 29);
        nextIs("hit 90; hard 2; guard 3; harder 11; guarded 13;", 2, 90 - 22 - 39);
        nextIs("hard 1; harder 40; harder 4; harder 14;", 2, 36);
        nextIs("guard 1; guarded 14; guarded 40; guarded 4;", 2, 46);
        nextIs("hard 1; harder 40; harder 0;", 2, 50);
        nextIs("harder 99; guarded 99;", 2, 50);
    }

    private static void held() {
        Doc.at(Doc.TERMS, "held to 0 to 100.");
        nextIs("hit 31; hard 3; harder 10;", 2, 1);
        nextIs("hit 30; hard 3; harder 10;", 2, 0);
        nextIs("hit 29; hard 3; harder 10;", 2, 0);
        nextIs("hit 0; hard 3; guard 3; harder 99; guarded 99;", 2, 0);
        nextIs("hit 100; hard 3; guard 3;", 2, 100);
        nextIs("hit 100; harder 99;", 2, 100);
        HotHand x = Due.with(1);
        x.row(0);
        x.thrown(0, true, 3, 3);
        Due.law(x, 0, "hit 90; harder 20; guarded 11;");
        Due.due("of a throw that was", x.told(0, 0, 4), 0);
        Due.law(x, 0, "hit 91; harder 20; guarded 10;");
        Due.due("of a throw that was", x.told(0, 0, 4), 1);
    }

    private static void stateBehind() {
        Doc.at(Doc.TERMS, "Behind each THROW, told or DEALT, STATE becomes what the first \"state\" tells that holds"
                + " (asked as ahead of the next one, with HARD and GUARDS of the one that was; none: it stays).");
        nextIs("state 3 if run = 1; state 4 if run = 2; state 5;", 3, 4);
        nextIs("state 3 if run = 1;", 3, 3);
        nextIs("state 3 if run = 3;", 3, 0);
        nextIs("state 1 if place = 1; state 2 if place = 2 and hits = 2 and state = 1;", 3, 2);
        nextIs("state 0; state 9;", 3, 0);
        nextIs("state 9; hard 3; guard 3;", 3, 9);
        // Hard and guards of the one that was, not those that the law tells for the next.
        HotHand x = Due.with(1);
        Due.law(x, 0, "hard 1 if place = 0; hard 2; guard 3 if place = 0; state 7 if hard = 1 and guard = 3; state 8;");
        x.row(0);
        x.deal(0, 1);
        Due.due("behind a dealt one", x.next(0, 3), 7);
        x.thrown(0, true, 1, 3);
        Due.due("behind a told one", x.next(0, 3), 7);
        x.thrown(0, true, 2, 3);
        Due.due("behind another one", x.next(0, 3), 8);
        Due.law(x, 0, "state 2 if miss > 0; state 5 if state = 2 and run = 1; state 9 if state = 5 and run = 3;");
        Due.row(x, 0, "HMMHHHM");
        int[] due = {0, 0, 2, 2, 5, 5, 9};
        for (int k = 0; k < due.length; k++) {
            Due.due("ahead of " + k, x.told(1, k, 3), due[k]);
        }
        Due.due("ahead of the next", x.next(1, 3), 2);
    }

    private static void thatWas() {
        Doc.at(Doc.TERMS, "CHANCE (and STATE) of a THROW that was: with HARD and GUARDS as they were,"
                + " by the LAW that's told now.");
        HotHand x = Due.with(1);
        Due.law(x, 0, "hit 80; hard 2; guard 1; harder 5; state 4;");
        x.row(0);
        x.deal(0, 2);
        Due.due("as it was dealt", x.told(0, 1, 4), 70);
        Due.due("its state", x.told(0, 1, 3), 4);
        Due.law(x, 0, "hit 60 if state = 6; hit 40; hard 3; guard 3; harder 1; guarded 10; state 6 if hard = 2 and guard = 1;");
        Due.due("hard as it was", x.told(0, 1, 1), 2);
        Due.due("guards as they were", x.told(0, 1, 2), 1);
        Due.due("the first one's chance", x.told(0, 0, 4), 28);
        Due.due("the second one's chance", x.told(0, 1, 4), 48);
        Due.due("the second one's state", x.told(0, 1, 3), 6);
        Due.law(x, 0, "");
        Due.due("by an empty law", x.told(0, 1, 4), 50);
        Due.due("by an empty law", x.told(0, 1, 3), 0);
    }

    private static void law() {
        Doc.at(Doc.TERMS, "DEALT: z (1 at first) becomes z times 6364136223846793005 and 1442695040888963407"
                + " (64 bits, wrapping);");
        HotHand x = Due.with(1);
        x.row(0);
        dueDraws(x, 0, 1);
        for (int from : new int[] {0, 1, 2, 4711, 500_000_000, 999_999_999}) {
            x = Due.with(1);
            x.seed(from);
            x.row(0);
            dueDraws(x, 0, from);
        }
    }

    /** The least z that is told by seed() and has this draw first. */
    private static int seedOf(int sought) {
        int from = 0;
        while (draw(next(BigInteger.valueOf(from))) != sought) {
            from++;
        }
        return from;
    }

    private static void firstDraw(int draw, int chance, int due) {
        HotHand x = Due.with(1);
        x.row(0);
        x.seed(seedOf(draw));
        Due.law(x, 0, "hit " + chance + ";");
        Due.due("draw " + draw + " by " + chance, x.deal(0, 1), due);
    }

    private static void drawsAtTheirChance() {
        Doc.at(Doc.TERMS, "the draw is z shifted to the right by 33, 0 coming in, modulo 100: a HIT, if it's below CHANCE.");
        firstDraw(0, 0, 0);
        firstDraw(0, 1, 1);
        firstDraw(98, 98, 0);
        firstDraw(98, 99, 1);
        firstDraw(99, 99, 0);
        firstDraw(99, 100, 1);
        // 0 comes in: z is above 2 to the 63rd here, and a sign coming in would tell another draw.
        int from = 0;
        while (!next(BigInteger.valueOf(from)).testBit(63)) {
            from++;
        }
        HotHand x = Due.with(1);
        x.row(0);
        x.seed(from);
        dueDraws(x, 0, from);
    }

    private static void oneDrawAThrow() {
        Doc.at(Doc.TERMS, "One draw a THROW.");
        // Sure HITS and sure misses take a draw, too; told throws take none.
        BigInteger z = BigInteger.ONE;
        for (int i = 0; i < 6; i++) {
            z = next(z);
        }
        for (int due = 0; due <= 1; due++) {
            HotHand x = Due.with(1);
            x.row(0);
            Due.law(x, 0, "hit 100 if place < 3; hit 0;");
            Due.due("sure ones", x.deal(0, 5), 3);
            x.thrown(0, true, 0, 0);
            Due.law(x, 0, "hit " + (draw(z) + due) + ";");
            Due.due("the sixth draw", x.deal(0, 1), due);
        }
    }
}
