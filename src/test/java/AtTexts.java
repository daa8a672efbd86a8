/** Promises 2, 4, 5, 6, 7: the tape, and the texts that are taken off it. */
final class AtTexts {
    private static final int NONE = HotHand.NONE;

    private AtTexts() {
    }

    static void run() {
        feed();
        fullTape();
        law();
        lawRefused();
        belief();
        measure();
        measureRefused();
        fault();
    }

    /** So many feeds, all blanks but for a rule at the very end. */
    private static HotHand fed(int feeds) {
        HotHand x = Due.with(1);
        for (int i = 1; i < feeds; i++) {
            x.feed(0x20202020, 0x20202020, 0x20202020, 0x20202020, 0x20202020);
        }
        x.feed(0x20202020, 0x20202020, 0x20202020, 0x20206869, 0x7420373b);
        return x;
    }

    private static void feed() {
        Doc.at(2, "Twenty bytes come behind those on the tape, of each number the highest first: how many there are.");
        HotHand x = Due.with(1);
        Due.due("feed", x.feed(0x68697420, 0x37206966, 0x20706c61, 0x6365203d, 0x20303b68), 20);
        Due.due("feed behind it", x.feed(0x69742038, 0x3b202020, 0x20202020, 0x20202020, 0x20202020), 40);
        Due.due("the law 'hit 7 if place = 0;hit 8;'", x.law(0, 25), 2);
        x.row(0);
        Due.due("its first rule", x.next(0, 2), 7);
        x.thrown(0, true, 0, 0);
        Due.due("its second rule", x.next(0, 2), 8);
        Due.due("an empty tape's first bytes", x.feed(-1, -1, -1, -1, -1), 20);
        Due.due("byte 255", x.law(0, 20), NONE);
        Due.due("its place", x.fault(), 0);
        // One byte of each number in turn is the first that no law begins with.
        for (int place = 0; place < 20; place++) {
            int[] five = {0x20202020, 0x20202020, 0x20202020, 0x20202020, 0x20202020};
            five[place / 4] ^= 0x1f << (24 - place % 4 * 8);
            x.feed(five[0], five[1], five[2], five[3], five[4]);
            x.law(0, 20);
            Due.due("the place of byte " + place, x.fault(), place);
        }
        for (int feeds = 1; feeds <= 30; feeds++) {
            Due.due("how many there are", x.feed(0, 0, 0, 0, 0), 20 * feeds);
        }
    }

    private static void fullTape() {
        Doc.at(2, "NONE, doing nothing: there would be more than 600.");
        HotHand x = fed(29);
        Due.due("580 and 20", x.feed(0x20202020, 0x20202020, 0x20202020, 0x20202020, 0x20202020), 600);
        Due.due("600 and 20", x.feed(0x20202020, 0x20202020, 0x20202020, 0x20202020, 0x20202020), NONE);
        Edge.leaves("feed on a full tape", () -> fed(30), NONE, y -> y.feed(0, 0, 0, 0, 0));
        HotHand y = fed(30);
        y.feed(0, 0, 0, 0, 0);
        Due.due("the tape", y.count(6), 600);
        Due.due("its law", y.law(0, 600), 1);
        y.row(0);
        Due.due("its rule", y.next(0, 2), 7);
        Due.due("there's room again", y.feed(0, 0, 0, 0, 0), 20);
    }

    /** A THROWER with a law, a row, a measure, a belief, and a text on the tape of 20 bytes. */
    private static HotHand used() {
        HotHand x = Due.with(2);
        Due.law(x, 0, "hit 30; state 2;");
        Due.belief(x, 0, "hit;");
        Due.measure(x, "hits");
        Due.row(x, 0, "HMH");
        Due.law(x, 0, "hit 3 or");
        Due.feed(x, "hit 70; hard 3;");
        return x;
    }

    private static void law() {
        Doc.at(4, "The first n bytes of the tape (which is empty then) are the LAW of a THROWER, in place of what was:"
                + " how many RULES.");
        HotHand x = used();
        Due.due("the first 7 of 20 bytes", x.law(0, 7), 1);
        Due.due("the tape is empty then", x.count(6), 0);
        Due.due("the law", x.next(0, 2), 70);
        Due.due("not what lies behind", x.next(0, 0), 0);
        Due.due("in place of what was", x.next(0, 3), 0);
        Due.due("its rules", x.count(10), 1);
        x = used();
        Due.due("all bytes", x.law(0, 20), 2);
        Due.due("the law", x.next(0, 0), 3);
        x = used();
        Due.due("none of 20 bytes", x.law(0, 0), 0);
        Due.due("the tape is empty then", x.count(6), 0);
        Due.due("an empty law", x.next(0, 2), 50);
        Due.due("none of no bytes", x.law(0, 0), 0);
        Due.due("the last thrower", x.law(1, 0), 0);
        Due.due("24 rules", Due.law(x, 1, "hit 1;".repeat(24)), 24);
        Due.due("the other one's", x.count(10), 0);
        // Nothing of a law that was, nor of one with a fault, is left in the next ones.
        for (String text : new String[] {"guarded 9; harder 9; state 5; hit 1;", "harder 9; guarded 9; hard 2; ?"}) {
            for (int i = 0; i < 3; i++) {
                Due.law(x, 1, text);
                Due.due("a law of two", Due.law(x, 0, "hard 1; guard 1;"), 2);
                Due.due("its chance", x.next(0, 2), 50);
                Due.due("its hard", x.next(0, 0), 1);
                Due.due("its state", x.next(0, 3), 0);
            }
        }
        Doc.at(4, "NONE: a FAULT (what was stays);");
        x = used();
        Due.due("six of seven bytes", x.law(0, 6), NONE);
        Due.due("its place", x.fault(), 6);
        Due.due("what was stays", x.count(10), 2);
        Due.due("what was stays", x.next(0, 2), 30);
        Due.due("what was stays", x.next(0, 3), 2);
        Due.due("25 rules", Due.law(x, 0, "hard 1;".repeat(25)), NONE);
        Due.due("what was stays", x.next(0, 0), 0);
        Due.due("what was stays", x.next(0, 2), 30);
        Due.due("the tape is empty then, too", x.count(6), 0);
    }

    private static void lawRefused() {
        Doc.at(4, "-2, doing nothing: n is below 0 or more than there are, no such THROWER.");
        Edge.of("n", 0, 20, -2, n -> used().law(0, n));
        Edge.of("thrower", 0, 1, -2, t -> used().law(t, 15));
        Due.due("one byte of an empty tape", Due.with(1).law(0, 1), -2);
        Due.due("no thrower at all", new HotHand().law(0, 0), -2);
        Due.due("a twelfth thrower", Due.with(12).law(11, 0), 0);
        Due.due("never a thirteenth", Due.with(12).law(12, 0), -2);
        Edge.leaves("law of -1 bytes", AtTexts::used, -2, x -> x.law(0, -1));
        Edge.leaves("law of 21 bytes", AtTexts::used, -2, x -> x.law(0, 21));
        Edge.leaves("law of thrower 2", AtTexts::used, -2, x -> x.law(2, 15));
        Edge.leaves("law of thrower -1", AtTexts::used, -2, x -> x.law(-1, 15));
    }

    /** As used(), with a belief's text on the tape. */
    private static HotHand watched() {
        HotHand x = used();
        x.law(0, 3);
        Due.feed(x, "hit; miss;");
        return x;
    }

    private static void belief() {
        Doc.at(5, "Likewise the BELIEF of a WATCHER.");
        HotHand x = watched();
        Due.due("the first 4 of 20 bytes", x.belief(3, 4), 1);
        Due.due("the tape is empty then", x.count(6), 0);
        Due.due("its statements", x.count(33), 1);
        Due.due("its bets", x.bets(3, 0, 0), 3);
        x = watched();
        Due.due("in place of what was", x.belief(0, 20), 2);
        Due.due("its statements", x.count(30), 2);
        x = watched();
        Due.due("none of 20 bytes", x.belief(0, 0), 0);
        Due.due("its bets", x.bets(0, 0, 0), 0);
        x = watched();
        Due.due("a fault", x.belief(0, 3), NONE);
        Due.due("its place", x.fault(), 3);
        Due.due("what was stays", x.count(30), 1);
        Due.due("what was stays", x.bets(0, 0, 0), 3);
        Due.due("the tape is empty then, too", x.count(6), 0);
        Due.due("24", Due.belief(x, 0, "pass;".repeat(24)), 24);
        Due.due("25", Due.belief(x, 0, "hit;".repeat(25)), NONE);
        Due.due("what was stays", x.bets(0, 0, 0), 0);
        Edge.of("n", 0, 20, -2, n -> watched().belief(0, n));
        Edge.of("watcher", 0, 3, -2, w -> watched().belief(w, 10));
        Due.due("without throwers", new HotHand().belief(0, 0), 0);
        Edge.leaves("belief of -1 bytes", AtTexts::watched, -2, y -> y.belief(0, -1));
        Edge.leaves("belief of 21 bytes", AtTexts::watched, -2, y -> y.belief(0, 21));
        Edge.leaves("belief of watcher 4", AtTexts::watched, -2, y -> y.belief(4, 10));
        Edge.leaves("belief of watcher -1", AtTexts::watched, -2, y -> y.belief(-1, 10));
    }

    /** So many measures, the last fault at 3, and "share" on the tape. */
    private static HotHand measured(int measures) {
        HotHand x = Due.with(1);
        Due.row(x, 0, "HMH");
        for (int i = 0; i < measures; i++) {
            Due.measure(x, "hits");
        }
        Due.law(x, 0, "hit");
        Due.feed(x, "share");
        return x;
    }

    private static void measure() {
        Doc.at(6, "Likewise a MEASURE: its number.");
        HotHand x = measured(0);
        Due.due("the first 5 of 20 bytes", x.measure(5), 0);
        Due.due("the tape is empty then", x.count(6), 0);
        Due.due("its value", x.value(0, 0, 0), x.value(0, 0, 1), 2, 3);
        for (int number = 1; number <= 3; number++) {
            Due.due("a measure", Due.measure(x, number + " hits"), number);
            Due.due("measures", x.count(4), number + 1);
        }
        Due.due("a fault", Due.measure(x, "4 hits"), NONE);
        Due.due("measures", x.count(4), 4);
        Due.due("a fault behind two terms", Due.measure(x, "2 hits + 3 hits + ?"), NONE);
        Due.due("a measure behind a fault", Due.measure(x, "runs"), 4);
        Due.due("its value", x.value(0, 4, 0), 3);
        Due.due("those of before", x.value(0, 3, 0), 6);
        x = measured(0);
        Due.due("four of five bytes", x.measure(4), NONE);
        Due.due("its place", x.fault(), 0);
        Due.due("no measure more", x.count(4), 0);
        Due.due("no measure more", x.value(0, 0, 0), Edge.NO);
        Due.due("the tape is empty then, too", x.count(6), 0);
        Due.due("no bytes", measured(0).measure(0), NONE);
        Due.due("20 bytes", measured(0).measure(20), 0);
        Due.due("21 bytes", measured(0).measure(21), -2);
        for (int n : new int[] {-1, 21, Integer.MIN_VALUE, Integer.MAX_VALUE}) {
            Edge.leaves("measure of " + n + " bytes", () -> measured(1), -2, y -> y.measure(n));
        }
    }

    private static void measureRefused() {
        Doc.at(6, "-3, doing nothing: 12 are there.");
        Due.due("the twelfth", measured(11).measure(5), 11);
        Due.due("a thirteenth", measured(12).measure(5), -3);
        Edge.leaves("a thirteenth", () -> measured(12), -3, x -> x.measure(5));
        Edge.leaves("a thirteenth that's a fault", () -> measured(12), -3, x -> x.measure(4));
        HotHand x = measured(12);
        x.measure(5);
        Due.due("the tape", x.count(6), 20);
        Due.due("the fault", x.fault(), 3);
        Due.due("measures", x.count(4), 12);
        Due.due("the twelfth", x.value(0, 11, 0), 2);
    }

    private static void fault() {
        Doc.at(7, "The FAULT's place of the latest of these three that was a number or NONE; NONE: it had none.");
        HotHand x = Due.with(1);
        Due.due("of a new object", x.fault(), NONE);
        Due.law(x, 0, "?");
        Due.due("the first byte", x.fault(), 0);
        Due.belief(x, 0, "hit ?");
        Due.due("a belief's", x.fault(), 4);
        Due.measure(x, "share ?");
        Due.due("a measure's", x.fault(), 6);
        x.law(0, -1);
        x.law(1, 0);
        x.belief(4, 0);
        x.measure(1);
        Due.due("behind -2", x.fault(), 6);
        x.belief(0, 0);
        Due.due("behind a belief without one", x.fault(), NONE);
        Due.law(x, 0, " ?");
        Due.measure(x, "share");
        Due.due("behind a measure without one", x.fault(), NONE);
        Due.belief(x, 0, "  ?");
        x.law(0, 0);
        Due.due("behind a law without one", x.fault(), NONE);
        Due.law(x, 0, " ".repeat(599) + "?");
        Due.due("the last byte", x.fault(), 599);
        Due.law(x, 0, "hit" + " ".repeat(597));
        Due.due("the longest text's length", x.fault(), 600);
        x.feed(0, 0, 0, 0, 0);
        x.thrower();
        x.image();
        x.back(0);
        Due.due("behind other calls", x.fault(), 600);
        HotHand y = measured(12);
        y.measure(0);
        Due.due("behind -3", y.fault(), 3);
    }
}
