/** Promises 1, 3, 8 to 13: throwers, rows, throws told and dealt, and what is asked of them. */
public final class ThrowsTest {
    // The first draws behind z 1, by hand of the law of z.
    private static final int[] DRAWS = {74, 53, 96, 70, 34, 95, 30, 2, 89, 46, 23, 2, 52, 0, 34, 12, 90, 95, 32, 65};

    public static void main(String[] args) {
        newObject();
        thrower();
        row();
        thrown();
        deal();
        seed();
        told();
        lawToldNow();
        aim();
        chance();
        words();
        state();
        next();
        Due.end("ThrowsTest");
    }

    private static void newObject() {
        HotHand x = new HotHand();
        for (int what = 0; what <= 6; what++) {
            Due.due("count " + what, x.count(what), 0);
        }
        Due.due("no fault", x.fault(), HotHand.NONE);
        Due.due("no row", x.told(0, -1, 0), HotHand.NONE);
        Due.due("no image", x.back(0), false);
        Due.due("no thrower", x.row(0), HotHand.NONE);
        Due.due("no measure", x.lean(0, 4, 5, 0), -1_000_000_000_000L);
        Due.due("NONE", HotHand.NONE, -1);
    }

    private static void thrower() {
        HotHand x = new HotHand();
        for (int i = 0; i < 12; i++) {
            Due.due("thrower", x.thrower(), i);
        }
        Due.due("a thirteenth", x.thrower(), HotHand.NONE);
        Due.due("nothing done", x.count(0), 12);
        HotHand y = Due.with(1);
        y.image();
        y.thrower();
        Due.law(y, 1, "hit 33;");
        y.back(0);
        Due.due("thrower 1 is gone", y.count(0), 1);
        Due.due("no law for it now", y.law(1, 0), -2);
        Due.due("it comes again", y.thrower(), 1);
        y.row(1);
        Due.due("with the law told for its number", y.next(0, 2), 33);
    }

    private static void row() {
        HotHand x = Due.with(2);
        Due.due("no such thrower", x.row(2), HotHand.NONE);
        Due.due("no such thrower", x.row(-1), HotHand.NONE);
        for (int i = 0; i < 60; i++) {
            Due.due("row", x.row(i % 2), i);
        }
        Due.due("a 61st", x.row(0), HotHand.NONE);
        Due.due("nothing done", x.count(1), 60);
        Due.due("whose it is", x.told(59, -1, 0), 1);
    }

    private static void thrown() {
        HotHand x = Due.with(1);
        x.row(0);
        Due.due("no such row", x.thrown(1, true, 0, 0), HotHand.NONE);
        Due.due("no such row", x.thrown(-1, true, 0, 0), HotHand.NONE);
        Due.due("hard 4", x.thrown(0, true, 4, 0), HotHand.NONE);
        Due.due("hard below", x.thrown(0, true, -1, 0), HotHand.NONE);
        Due.due("guards 4", x.thrown(0, true, 0, 4), HotHand.NONE);
        Due.due("guards below", x.thrown(0, true, 0, -1), HotHand.NONE);
        Due.due("nothing done", x.count(2), 0);
        for (int i = 1; i <= 24; i++) {
            Due.due("thrown", x.thrown(0, i % 3 == 0, i % 4, (i + 1) % 4), i);
        }
        Due.due("a 25th", x.thrown(0, true, 0, 0), HotHand.NONE);
        Due.due("throws", x.count(2), 24);
        Due.due("hits", x.count(3), 8);
        for (int i = 1; i <= 24; i++) {
            Due.due("hit", x.told(0, i - 1, 0), i % 3 == 0 ? 1 : 0);
            Due.due("hard", x.told(0, i - 1, 1), i % 4);
            Due.due("guard", x.told(0, i - 1, 2), (i + 1) % 4);
        }
    }

    private static void deal() {
        HotHand x = Due.with(2);
        x.row(0);
        x.row(1);
        Due.due("no such row", x.deal(2, 1), HotHand.NONE);
        Due.due("no such row", x.deal(-1, 1), HotHand.NONE);
        Due.due("none of them", x.deal(0, 0), HotHand.NONE);
        Due.due("25 of them", x.deal(0, 25), HotHand.NONE);
        Due.due("without a law: below 50", x.deal(0, 20), 10);
        for (int i = 0; i < 20; i++) {
            Due.due("draw " + i, x.told(0, i, 0), DRAWS[i] < 50 ? 1 : 0);
            Due.due("hard", x.told(0, i, 1), 0);
        }
        Due.due("there would be 25", x.deal(0, 5), HotHand.NONE);
        Due.due("nothing done", x.told(0, -1, 1), 20);
        Due.due("just 24", x.deal(0, 4) >= 0, true);
        Due.due("full", x.deal(0, 1), HotHand.NONE);
        for (int edge = 74; edge <= 75; edge++) {
            HotHand y = Due.with(1);
            y.row(0);
            Due.law(y, 0, "hit " + edge + ";");
            Due.due("below its chance alone", y.deal(0, 1), edge - 74);
        }
        HotHand z = Due.with(2);
        z.row(0);
        z.row(1);
        Due.law(z, 0, "hit 100 if place = 0; hit 0;");
        Due.due("100 and 0", z.deal(0, 5), 1);
        Due.law(z, 1, "hit 96;");
        Due.due("one draw a throw, whatever its chance", z.deal(1, 1), 1);
        Due.due("the draws go on from row to row", z.deal(0, 1), 0);
        Due.due("the next ones", z.deal(1, 3), 3);
        Due.law(z, 1, "hit 46;");
        Due.due("the next draws are 23 and 2", z.deal(1, 2), 2);
    }

    private static void seed() {
        HotHand x = Due.with(1);
        x.row(0);
        Due.due("below 0", x.seed(-1), false);
        Due.due("too great", x.seed(1_000_000_000), false);
        Due.law(x, 0, "hit 74;");
        Due.due("z was 1", x.deal(0, 1), 0);
        Due.due("0", x.seed(0), true);
        Due.law(x, 0, "hit 24;");
        Due.due("behind 0: 7, 24", x.deal(0, 2), 1);
        Due.due("the greatest", x.seed(999_999_999), true);
        Due.law(x, 0, "hit 72;");
        Due.due("behind it: 90, 71", x.deal(0, 2), 1);
        Due.due("1 again", x.seed(1), true);
        Due.law(x, 0, "hit 75;");
        Due.due("z is 1", x.deal(0, 1), 1);
        x.seed(1);
        Due.due("false does nothing", x.seed(-5), false);
        Due.due("z is 1", x.deal(0, 1), 1);
    }

    private static void told() {
        HotHand x = Due.with(2);
        x.row(0);
        Due.row(x, 1, "HHMHMMH");
        int[] run = {0, 1, 2, 0, 1, 0, 0};
        int[] miss = {0, 0, 0, 1, 0, 1, 2};
        int[] hits = {0, 1, 2, 2, 3, 3, 3};
        for (int k = 0; k < 7; k++) {
            Due.due("run", x.told(1, k, 5), run[k]);
            Due.due("miss", x.told(1, k, 6), miss[k]);
            Due.due("hits", x.told(1, k, 7), hits[k]);
            Due.due("chance", x.told(1, k, 4), 50);
            Due.due("state", x.told(1, k, 3), 0);
        }
        Due.due("thrower", x.told(1, -1, 0), 1);
        Due.due("throws", x.told(1, -1, 1), 7);
        Due.due("hits", x.told(1, -1, 2), 4);
        Due.due("no more of a row", x.told(1, -1, 3), HotHand.NONE);
        Due.due("of an empty one", x.told(0, -1, 2), 0);
        Due.due("of an empty one", x.told(0, 0, 0), HotHand.NONE);
        Due.due("no such throw", x.told(1, 7, 0), HotHand.NONE);
        Due.due("no such throw", x.told(1, -2, 0), HotHand.NONE);
        Due.due("no such row", x.told(2, 0, 0), HotHand.NONE);
        Due.due("no such row", x.told(-1, -1, 0), HotHand.NONE);
        Due.due("no such what", x.told(1, 0, 8), HotHand.NONE);
        Due.due("no such what", x.told(1, 0, -1), HotHand.NONE);
        Due.due("no such what", x.told(1, -1, -1), HotHand.NONE);
    }

    private static void lawToldNow() {
        HotHand x = Due.with(1);
        x.row(0);
        x.thrown(0, true, 2, 1);
        x.thrown(0, true, 3, 2);
        x.thrown(0, false, 1, 3);
        Due.law(x, 0, "hit 90; harder 10; guarded 5; hard 1; guard 1; state 4 if hard = 3;");
        Due.due("with hard and guards as they were", x.told(0, 0, 4), 90 - 20 - 5);
        Due.due("with hard and guards as they were", x.told(0, 1, 4), 90 - 30 - 10);
        Due.due("with hard and guards as they were", x.told(0, 2, 4), 90 - 10 - 15);
        Due.due("hard stays", x.told(0, 0, 1), 2);
        Due.due("state", x.told(0, 1, 3), 0);
        Due.due("state behind the second", x.told(0, 2, 3), 4);
        Due.due("state stays", x.next(0, 3), 4);
        Due.law(x, 0, "hit 20; state 2;");
        Due.due("by the law that's told now", x.told(0, 1, 4), 20);
        Due.due("by the law that's told now", x.told(0, 0, 3), 0);
        Due.due("by the law that's told now", x.told(0, 1, 3), 2);
        Due.due("by the law that's told now", x.next(0, 3), 2);
    }

    private static void aim() {
        HotHand x = Due.with(1);
        x.row(0);
        Due.law(x, 0, "hard 3 if hard > 0; hard 1 if guard > 0; hard 2; guard 3 if guard > 0; guard 1 if hard = 2; guard 2;");
        Due.due("hard is asked with hard 0, guard 0", x.next(0, 0), 2);
        Due.due("guard is asked with the hard there is, guard 0", x.next(0, 1), 1);
        Due.law(x, 0, "hit 11 if hard = 2 and guard = 1; hard 2; guard 1;");
        Due.due("chance is asked with both", x.next(0, 2), 11);
        x.deal(0, 1);
        Due.due("dealt so", x.told(0, 0, 1), 2);
        Due.due("dealt so", x.told(0, 0, 2), 1);
        Due.law(x, 0, "hard 1 if place > 1; hard 2 if place > 0; hard 3 if place > 0;");
        Due.due("the first that holds", x.next(0, 0), 2);
        Due.law(x, 0, "hard 1 if place > 1; guard 1 if place > 1; hit 1 if place > 1;");
        Due.due("none holds", x.next(0, 0), 0);
        Due.due("none holds", x.next(0, 1), 0);
        Due.due("none holds", x.next(0, 2), 50);
    }

    private static void chanceOf(String law, int due) {
        HotHand x = Due.with(1);
        x.row(0);
        Due.law(x, 0, law);
        Due.due("chance by " + law, x.next(0, 2), due);
    }

    private static void chance() {
        HotHand x = Due.with(1);
        x.row(0);
        x.thrown(0, true, 3, 3);
        Due.due("without a law", x.told(0, 0, 4), 50);
        chanceOf("", 50);
        chanceOf("hard 3; guard 3;", 50);
        chanceOf("harder 10;", 50);
        chanceOf("hard 2; harder 10;", 30);
        chanceOf("hard 2; harder 10; harder 3;", 44);
        chanceOf("guarded 7; guard 3;", 29);
        chanceOf("hit 90; guarded 7; guard 3; harder 1; hard 3;", 66);
        chanceOf("hard 3; harder 99;", 0);
        chanceOf("hit 0;", 0);
        chanceOf("hit 100;", 100);
        chanceOf("hit 1 if run > 0; hit 2 if not run > 0; hit 3;", 2);
    }

    private static void asks(HotHand x, String what, boolean due) {
        Due.law(x, 0, "hit 1 if " + what + "; hit 0;");
        Due.due("whether " + what, x.told(0, 6, 4), due ? 1 : 0);
    }

    private static void words() {
        HotHand x = Due.with(1);
        Due.row(x, 0, "MHMHHH");
        x.thrown(0, true, 2, 3);
        asks(x, "run = 3", true);
        asks(x, "run > 3", false);
        asks(x, "run < 3", false);
        asks(x, "run > 2 and run < 4", true);
        asks(x, "miss = 0", true);
        asks(x, "place = 6", true);
        asks(x, "hits = 4", true);
        asks(x, "hard = 2 and guard = 3", true);
        asks(x, "state = 0", true);
        asks(x, "run = 1 or run = 2 or run = 3", true);
        asks(x, "run = 3 or run = 1 and run = 2", true);
        asks(x, "(run = 3 or run = 1) and run = 2", false);
        asks(x, "run = 1 and run = 2 or run = 3", true);
        asks(x, "not run = 3 or hits = 4", true);
        asks(x, "not (run = 3 or hits = 4)", false);
        asks(x, "not run = 3 and hits = 4", false);
        asks(x, "not not run = 3", true);
        asks(x, "not (not (run = 3 and not hits = 9))", true);
        asks(x, "run = 3 and (miss = 0 and (place = 6 and (hits = 4 or hits = 5)))", true);
        asks(x, "(((run = 9 or (miss = 9)) or (place = 9)) or (hits = 4))", true);
    }

    private static void state() {
        HotHand x = Due.with(1);
        Due.row(x, 0, "HHHMMH");
        Due.law(x, 0, "state 3 if run > 1 and state = 0; state 5 if state = 3; state 0 if miss > 1;");
        int[] due = {0, 0, 3, 5, 5, 0, 0};
        for (int k = 0; k < 6; k++) {
            Due.due("state ahead of " + k, x.told(0, k, 3), due[k]);
        }
        Due.due("state ahead of the next", x.next(0, 3), due[6]);
        Due.law(x, 0, "state 1 if place = 1 and hits = 1; state 2 if place = 2 and run = 2;");
        Due.due("asked as ahead of the next one", x.told(0, 1, 3), 1);
        Due.due("asked as ahead of the next one", x.told(0, 2, 3), 2);
        HotHand y = Due.with(1);
        y.row(0);
        y.thrown(0, true, 1, 2);
        y.thrown(0, true, 2, 3);
        Due.law(y, 0, "hard 3; guard 1; state 7 if hard = 1 and guard = 2; state 8 if hard = 2 and guard = 3; state 9;");
        Due.due("with hard and guards of the one that was", y.told(0, 1, 3), 7);
        Due.due("with hard and guards of the one that was", y.next(0, 3), 8);
        y.deal(0, 1);
        Due.due("behind a dealt one, too", y.next(0, 3), 9);
    }

    private static void next() {
        HotHand x = Due.with(1);
        x.row(0);
        Due.law(x, 0, "hit 10 if place > 23; hit 20; hard 1; guard 2; guarded 3; state 6;");
        Due.due("hard", x.next(0, 0), 1);
        Due.due("guards", x.next(0, 1), 2);
        Due.due("chance", x.next(0, 2), 14);
        Due.due("state of an empty row", x.next(0, 3), 0);
        Due.due("no such what", x.next(0, 4), HotHand.NONE);
        Due.due("no such what", x.next(0, -1), HotHand.NONE);
        Due.due("no such row", x.next(1, 0), HotHand.NONE);
        Due.due("no such row", x.next(-1, 0), HotHand.NONE);
        x.deal(0, 24);
        Due.due("of a full row", x.next(0, 2), 4);
        Due.due("state", x.next(0, 3), 6);
        Due.due("nothing done", x.count(2), 24);
    }
}
