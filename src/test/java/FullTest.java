/** All limits reached at once: every promise, with 12 throwers, 60 rows of 24 throws, 600 bytes, 3 images. */
public final class FullTest {
    private static final long NO = -1_000_000_000_000L;

    public static void main(String[] args) {
        HotHand x = full();
        counts(x);
        people(x);
        chances(x);
        watchers(x);
        tape();
        longLaw();
        Due.end("FullTest");
    }

    /** Each thrower has 5 rows; a row is 12 HITS, then 12 misses. */
    private static HotHand full() {
        HotHand x = Due.with(12);
        for (int t = 0; t < 12; t++) {
            Due.law(x, t, "hit 100 if place < 12; hit 0; hard 3 if place > 20; guard 3; guarded 0; state 9 if place = 23;");
        }
        for (int i = 0; i < 12; i++) {
            Due.measure(x, "3 hits + 3 runs + 3 longest miss + 3 first miss");
        }
        for (int i = 0; i < 60; i++) {
            Due.due("row", x.row(i / 5), i);
            Due.due("deal", x.deal(i, 24), 12);
        }
        for (int i = 0; i < 3; i++) {
            Due.due("image", x.image(), i);
        }
        Due.due("back", x.back(2), true);
        return x;
    }

    private static void counts(HotHand x) {
        int[] due = {12, 60, 1440, 720, 12, 3, 0};
        for (int what = 0; what <= 6; what++) {
            Due.due("count " + what, x.count(what), due[what]);
        }
        Due.due("rules", x.count(21), 6);
        Due.due("told", x.told(59, 23, 1), 3);
        Due.due("told", x.told(59, 23, 2), 3);
        Due.due("told", x.told(59, 23, 3), 9);
        Due.due("told", x.told(59, 23, 6), 11);
        Due.due("told", x.told(59, 23, 7), 12);
        Due.due("next", x.next(59, 3), 9);
        Due.due("value", x.value(59, 11, 0), 3 * (12 + 2 + 12 + 13));
        Due.due("mean", x.mean(-1, 11, 0), 3 * (12 + 2 + 12 + 13));
        Due.due("mean", x.mean(11, 11, 1), 1);
        Due.due("right", x.right(59, 11, 5, 0), NO);
        Due.due("shuffle", x.shuffle(59, 11, 0), HotHand.NONE);
        Due.due("lean", x.lean(11, 12, 5, 1) > 0, true);
    }

    private static void people(HotHand x) {
        Due.due("joined", x.joined(11, true, 1, 1), 5 * 12);
        Due.due("joined", x.joined(11, true, 5, 0), 5 * 7);
        Due.due("hards", x.hards(11, 3, 1), 15);
        Due.due("hards", x.hards(11, 0, 1), 105);
        Due.due("hards", x.hards(11, 0, 2), 55);
        // 55 less 60 * 60/105.
        Due.due("off", x.off(11, 0), x.off(11, 1), 145, 7);
        // 0 less 45 / 60.
        Due.due("chosen", x.chosen(11, 0), x.chosen(11, 1), -3, 4);
        Due.due("hundredths", x.hundredths(11), 50);
        Due.due("groups", x.groups(3, 3), 10);
        Due.due("groups", x.groups(1, 1), 12);
        Due.due("above", x.above(91), 4095);
        Due.due("above", x.above(92), 0);
        int[] due = {660, 720, 0, 660, 12, 0};
        for (int what = 0; what <= 5; what++) {
            Due.due("pooled " + what, x.pooled(what), due[what]);
        }
        Due.due("season", x.season(0, 59, false, 1, 1), 660);
        Due.due("season", x.season(59, 59, true, 1, 1), 12);
    }

    private static void chances(HotHand x) {
        Due.due("together", x.together(11, 0), HotHand.NONE);
        Due.due("say", x.say(11, 5, 5), HotHand.NONE);
        Due.due("hidden", x.hidden(59, 5, 5, 5, 0), HotHand.NONE);
        Due.due("give", x.give(11, 0, 8, 5, 3, 0), 8);
        Due.due("give", x.give(11, 0, 8, 1, 3, 2), 8);
        Due.due("worlds", x.worlds(11, 24, 60, 11, 0), 117);
        Due.due("worlds", x.worlds(11, 24, 60, 11, 2), 60);
    }

    private static void watchers(HotHand x) {
        Due.belief(x, 3, "hit if place < 12; miss if place < 23;");
        Due.due("bets", x.bets(3, 11, 0), 60);
        Due.due("bets", x.bets(3, 11, 1), 60);
        Due.due("bets", x.bets(3, 11, 2), 55);
        Due.due("bets", x.bets(3, 11, 3), 55);
        Due.due("odds", x.odds(3, 11, 0), HotHand.NONE);
        Due.due("foretold", x.foretold(11, 100, 100, 0), 6000);
        Due.due("foretold", x.foretold(11, 0, 100, 2), 120);
        Due.due("heat", x.heat(11, 0), 5);
        Due.due("heat", x.heat(11, 2), 5);
        Due.due("no thrower more", x.thrower(), HotHand.NONE);
        Due.due("no row more", x.row(11), HotHand.NONE);
        Due.due("no throw more", x.thrown(59, true, 0, 0), HotHand.NONE);
        Due.due("no deal more", x.deal(59, 1), HotHand.NONE);
        Due.due("no image more", x.image(), HotHand.NONE);
        Due.due("no measure more", x.measure(0), -3);
    }

    private static void tape() {
        HotHand x = Due.with(1);
        Due.due("600 signs", Due.law(x, 0, ";".repeat(600)), HotHand.NONE);
        Due.due("their fault", x.fault(), 0);
        Due.due("600 letters", Due.law(x, 0, "h".repeat(600)), HotHand.NONE);
        Due.due("600 digits", Due.measure(x, "9".repeat(600)), HotHand.NONE);
        String text = "hit 1" + " ".repeat(594) + ";";
        Due.due("a rule of 600 bytes", Due.law(x, 0, text), 1);
        Due.due("more must come", Due.law(x, 0, text.substring(0, 599) + " "), HotHand.NONE);
        Due.due("its place", x.fault(), 600);
        Due.due("600 brackets", Due.belief(x, 0, "hit if " + "(".repeat(593)), HotHand.NONE);
        Due.due("the ninth", x.fault(), 15);
    }

    /** As many comparisons as 600 bytes hold, so that all of them are kept. */
    private static void longLaw() {
        StringBuilder b = new StringBuilder("hit 7if");
        while (b.length() < 580) {
            b.append(" run>9or");
        }
        HotHand x = Due.with(1);
        x.row(0);
        Due.due("a long law", Due.law(x, 0, b + " run=0;"), 1);
        Due.due("all of it is asked", x.next(0, 2), 7);
        Due.due("a long law", Due.law(x, 0, b + " run=1;"), 1);
        Due.due("all of it is asked", x.next(0, 2), 50);
    }
}
