/** Promises 2, 4, 5, 6, 7: the tape, the three kinds of texts, and where they have their FAULT. */
public final class TextsTest {
    private static final String DEEP = "not not not not not not not not ";

    public static void main(String[] args) {
        feed();
        law();
        lawFaults();
        lawLimits();
        belief();
        measure();
        measureFaults();
        fault();
        Due.end("TextsTest");
    }

    private static void feed() {
        HotHand x = Due.with(1);
        for (int i = 1; i <= 30; i++) {
            Due.due("feed " + i, x.feed(0x20202020, 0x20202020, 0x20202020, 0x20202020, 0x20202020), 20 * i);
        }
        Due.due("feed beyond 600", x.feed(0, 0, 0, 0, 0), HotHand.NONE);
        Due.due("the tape then", x.count(6), 600);
        Due.due("a law of 600 blanks", x.law(0, 600), 0);
        // The highest byte of each number comes first: "hit ", "10;h", "ard ", "3;gu", "ard1".
        Due.due("feed", x.feed(0x68697420, 0x31303b68, 0x61726420, 0x333b6775, 0x61726431), 20);
        Due.due("feed", x.feed(0x3b202020, -1, -1, -1, -1), 40);
        Due.due("the law of it", x.law(0, 21), 3);
        Due.due("the tape is empty", x.count(6), 0);
        Due.due("row", x.row(0), 0);
        Due.due("hard", x.next(0, 0), 3);
        Due.due("guard", x.next(0, 1), 1);
        Due.due("chance", x.next(0, 2), 10);
        x.feed(0x680a6974, 0x8080807f, -1, 0, 0);
        Due.due("a byte above 127", x.law(0, 20), HotHand.NONE);
        Due.due("its place", x.fault(), 0);
    }

    private static void law() {
        HotHand x = Due.with(2);
        Due.due("no law", x.count(10), 0);
        Due.due("a law", Due.law(x, 0, "hit 70; harder 3; guarded 4;"), 3);
        Due.due("its rules", x.count(10), 3);
        Due.due("the other one's rules", x.count(11), 0);
        int n = Due.feed(x, "hit 20;");
        Due.due("n below 0", x.law(0, -1), -2);
        Due.due("n above what's there", x.law(0, 21), -2);
        Due.due("no such thrower", x.law(2, n), -2);
        Due.due("no such thrower", x.law(-1, n), -2);
        Due.due("nothing done", x.count(6), 20);
        Due.due("nothing done", x.count(10), 3);
        Due.due("all that's there", x.law(0, 20), 1);
        Due.due("in place of what was", x.count(10), 1);
        Due.due("a fault", Due.law(x, 0, "hit 20; hit"), HotHand.NONE);
        Due.due("what was stays", x.count(10), 1);
        Due.due("the tape is empty behind a fault", x.count(6), 0);
        x.row(0);
        Due.due("what was stays", x.next(0, 2), 20);
        Due.feed(x, "hit 30;hit 40;");
        Due.due("the first bytes alone", x.law(0, 7), 1);
        Due.due("the first bytes alone", x.next(0, 2), 30);
        Due.due("the rest is gone", x.count(6), 0);
        Due.due("an empty law", x.law(0, 0), 0);
        Due.due("a chance without a law", x.next(0, 2), 50);
    }

    private static void lawFault(String text, int place) {
        HotHand x = Due.with(1);
        Due.due("law of '" + text + "'", Due.law(x, 0, text) == HotHand.NONE, place != HotHand.NONE);
        Due.due("fault of '" + text + "'", x.fault(), place);
    }

    private static void lawFaults() {
        lawFault("", HotHand.NONE);
        lawFault("hit50;", HotHand.NONE);
        lawFault("hit50if(run>1)or not miss<2;state9;", HotHand.NONE);
        lawFault("\n hit\n050 if run=99and hits<0 or place>007 ;\n", HotHand.NONE);
        lawFault("hit 0;hit 100;hard 3;guard 3;state 9;harder 99;guarded 0;", HotHand.NONE);
        lawFault("hit", 3);
        lawFault("hit ", 4);
        lawFault("hit 50", 6);
        lawFault("hit 50 if", 9);
        lawFault("hit 50 if run > 1 and", 21);
        lawFault("hit 50 if (run > 1", 18);
        lawFault("hit 50 if run > 1 or", 20);
        lawFault("hit 50 if run > 1 or;", 20);
        lawFault("hit 50 if run > 1 and;", 21);
        lawFault("hit 50 if not;", 13);
        lawFault("hit 101;", 4);
        lawFault("hit 0050;", 4);
        lawFault("hard 4;", 5);
        lawFault("guard 4;", 6);
        lawFault("state 10;", 6);
        lawFault("harder 100;", 7);
        lawFault("guarded 100;", 8);
        lawFault("harder 5 if run > 1;", 9);
        lawFault("guarded 5 if run > 1;", 10);
        lawFault("hit 50 if run > 100;", 16);
        lawFault("hit 50 if run > 0001;", 16);
        lawFault("hit 50 if hard > 99;", HotHand.NONE);
        lawFault("hit 50 if runs > 1;", 10);
        lawFault("hit 50 if hit > 1;", 10);
        lawFault("hit 50 if run >;", 15);
        lawFault("hit 50 if run > > 1;", 16);
        lawFault("hit 50 if run >= 1;", 15);
        lawFault("hit 50 if run > 1);", 17);
        lawFault("hit 50 if (run > 1;", 18);
        lawFault("hit 50 if ();", 11);
        lawFault("hit 50 if and run > 1;", 10);
        lawFault("hit 50 if run > 1 not run > 2;", 18);
        lawFault("hit 50 of run > 1;", 7);
        lawFault("hit 12a;", 6);
        lawFault("hit a12;", 4);
        lawFault("hits 50;", 0);
        lawFault("miss;", 0);
        lawFault("Hit 50;", 0);
        lawFault("hit 50\t;", 6);
        lawFault("hit 50;;", 7);
        lawFault("hit 50; " + (char) 200, 8);
        lawFault("hit 50; " + (char) 0, 8);
        lawFault("hit -1;", 4);
    }

    private static void lawLimits() {
        lawFault("hit 1;".repeat(24), HotHand.NONE);
        lawFault("hit 1;".repeat(25), 144);
        lawFault("hit 1;".repeat(24) + "  ?", 146);
        lawFault("harder 1;".repeat(24) + "guarded 1;", 216);
        lawFault("hit 1 if " + DEEP + "run > 1;", HotHand.NONE);
        lawFault("hit 1 if " + DEEP + "not run > 1;", 9 + DEEP.length());
        lawFault("hit 1 if " + DEEP + "(run > 1);", 9 + DEEP.length());
        lawFault("hit 1 if ((((((((run > 1))))))));", HotHand.NONE);
        lawFault("hit 1 if (((((((((run > 1)))))))));", 17);
        lawFault("hit 1 if (not (not (not (not run > 1))));", HotHand.NONE);
        // What is closed isn't open any more.
        lawFault("hit 1 if " + DEEP + "run > 1 or " + DEEP + "run > 1 and " + DEEP + "run > 1;", HotHand.NONE);
        lawFault("hit 1 if (" + DEEP.substring(4) + "run > 1 and (run > 2)) or not (run > 3);", HotHand.NONE);
        HotHand x = Due.with(1);
        Due.due("24 rules", Due.law(x, 0, "hit 1;".repeat(24)), 24);
        Due.due("24 rules", x.count(10), 24);
    }

    private static void belief() {
        HotHand x = Due.with(1);
        Due.due("no belief", x.count(30), 0);
        Due.due("a belief", Due.belief(x, 0, "hit if run > 1; miss if miss > 1 and not state = 2; pass;"), 3);
        Due.due("the last watcher's", Due.belief(x, 3, "miss;"), 1);
        Due.due("statements", x.count(30), 3);
        Due.due("statements", x.count(33), 1);
        int n = Due.feed(x, "hit;");
        Due.due("no such watcher", x.belief(4, n), -2);
        Due.due("no such watcher", x.belief(-1, n), -2);
        Due.due("n below 0", x.belief(0, -1), -2);
        Due.due("n above", x.belief(0, 21), -2);
        Due.due("nothing done", x.count(6), 20);
        Due.due("the first bytes", x.belief(0, 4), 1);
        Due.due("the tape is empty", x.count(6), 0);
        Due.due("no number", Due.belief(x, 0, "hit 5;"), HotHand.NONE);
        Due.due("its place", x.fault(), 4);
        Due.due("what was stays", x.count(30), 1);
        Due.due("no other word", Due.belief(x, 0, "miss; hard;"), HotHand.NONE);
        Due.due("its place", x.fault(), 6);
        Due.due("more must come", Due.belief(x, 0, "pass if hits < 3 "), HotHand.NONE);
        Due.due("its place", x.fault(), 17);
        Due.due("24", Due.belief(x, 0, "hit;".repeat(24)), 24);
        Due.due("25", Due.belief(x, 0, "hit;".repeat(25)), HotHand.NONE);
        Due.due("its place", x.fault(), 96);
        Due.due("an empty one", x.belief(0, 0), 0);
        Due.due("an empty one", x.count(30), 0);
    }

    private static void measure() {
        HotHand x = Due.with(0);
        String[] texts = {"share", "after hit 5", "after miss 1", "runs", "longest hit", "longest miss", "hits",
            "pairs hit miss", "first hit", "3share+2runs-hits+first miss", " 1 share\n", "002 hits"};
        for (int i = 0; i < 12; i++) {
            Due.due("measure of " + texts[i], Due.measure(x, texts[i]), i);
            Due.due("measures", x.count(4), i + 1);
            Due.due("no fault", x.fault(), HotHand.NONE);
            Due.due("the tape is empty", x.count(6), 0);
            if (i == 5) {
                Due.due("a fault", Due.measure(x, "share +"), HotHand.NONE);
                Due.due("none more", x.count(4), 6);
                Due.due("the tape is empty", x.count(6), 0);
                int n = Due.feed(x, "share");
                Due.due("n below 0", x.measure(-1), -2);
                Due.due("n above", x.measure(21), -2);
                Due.due("nothing done", x.count(6), 20);
                Due.due("an empty text", x.measure(0), HotHand.NONE);
                Due.due("its place", x.fault(), 0);
                Due.due("of five bytes", n, 5);
            }
        }
        HotHand y = new HotHand();
        Due.feed(y, "shares");
        Due.due("a word goes on to the text's end alone", y.measure(5), 0);
        Due.feed(y, "after hit 55");
        Due.due("a number goes on to the text's end alone", y.measure(11), 1);
        int n = Due.feed(x, "sh?");
        Due.due("12 are there", x.measure(n), -3);
        Due.due("nothing done", x.count(6), 20);
        Due.due("nothing done", x.fault(), HotHand.NONE);
        Due.due("n above", x.measure(21), -2);
    }

    private static void measureFault(String text, int place) {
        HotHand x = new HotHand();
        Due.due("measure of '" + text + "'", Due.measure(x, text) == HotHand.NONE, place != HotHand.NONE);
        Due.due("fault of '" + text + "'", x.fault(), place);
    }

    private static void measureFaults() {
        measureFault("hits+hits+hits+hits", HotHand.NONE);
        measureFault("hits+hits+hits+hits+hits", 19);
        measureFault("hits+hits+hits+hits -", 20);
        measureFault("hits+hits+hits+hits hits", 20);
        measureFault("", 0);
        measureFault("  ", 2);
        measureFault("0 share", 0);
        measureFault("4 share", 0);
        measureFault("0003 share", 0);
        measureFault("2 2 share", 2);
        measureFault("2", 1);
        measureFault("-share", 0);
        measureFault("share -", 7);
        measureFault("share - - share", 8);
        measureFault("share share", 6);
        measureFault("shares", 0);
        measureFault("after hit", 9);
        measureFault("after hit 0", 10);
        measureFault("after hit 6", 10);
        measureFault("after 1", 6);
        measureFault("after hits 1", 6);
        measureFault("longest", 7);
        measureFault("longest run", 8);
        measureFault("pairs hit", 9);
        measureFault("pairs hit 1", 10);
        measureFault("pairs share hit", 6);
        measureFault("first hit miss", 10);
        measureFault("runs hit", 5);
        measureFault("share;", 5);
        measureFault("share + Hits", 8);
    }

    private static void fault() {
        HotHand x = Due.with(1);
        Due.due("no text yet", x.fault(), HotHand.NONE);
        Due.law(x, 0, "hit 50 or");
        Due.due("a law's", x.fault(), 7);
        x.law(0, -1);
        x.belief(9, 0);
        x.measure(1);
        Due.due("-2 doesn't count", x.fault(), 7);
        Due.belief(x, 0, "hit or");
        Due.due("a belief's", x.fault(), 4);
        Due.measure(x, "runs");
        Due.due("the latest had none", x.fault(), HotHand.NONE);
        Due.measure(x, "runs + +");
        Due.due("a measure's", x.fault(), 7);
        x.law(0, 0);
        Due.due("the latest had none", x.fault(), HotHand.NONE);
    }
}
