/** Promises 22, 23, 24, 40: what a trial could have missed, and what may be said. */
public final class TrialsTest {
    public static void main(String[] args) {
        line();
        power();
        powerEdges();
        need();
        strong();
        say();
        sayEdges();
        Due.end("TrialsTest");
    }

    private static void line() {
        HotHand x = new HotHand();
        // Of three by 5 tenths: 2 pairs by 1/8, 1 or more by 3/8.
        Due.due("12.5 is more than 12", x.power(3, 5, 0, 12, 0), 3);
        Due.due("12.5 is at most 13", x.power(3, 5, 0, 13, 0), 2);
        Due.due("37.5 is more than 37", x.power(3, 5, 0, 37, 0), 2);
        Due.due("37.5 is at most 38", x.power(3, 5, 0, 38, 0), 1);
        Due.due("never 0", x.power(3, 5, 0, 99, 0), 1);
        Due.due("just w", x.power(2, 5, 0, 25, 0), 1);
        Due.due("n at most", x.power(12, 9, 0, 1, 0), 12);
        Due.due("with e 0, whatever e is", x.power(3, 5, 9, 13, 0), 2);
        Due.due("by 1 tenth: 1/100", x.power(2, 1, 0, 1, 0), 1);
    }

    private static void power() {
        HotHand x = new HotHand();
        Due.due("for nothing", x.power(3, 5, 0, 38, 1), x.power(3, 5, 0, 38, 2), 3, 8);
        // HHH 245, HHM 105, MHH 105 of 1000.
        Due.due("with 2 tenths", x.power(3, 5, 2, 38, 1), x.power(3, 5, 2, 38, 2), 91, 200);
        Due.due("with 3 tenths", x.power(2, 5, 3, 25, 1), x.power(2, 5, 3, 25, 2), 2, 5);
        Due.due("held to 10 tenths", x.power(2, 9, 9, 81, 1), x.power(2, 9, 9, 81, 2), 9, 10);
        // MHH has a chance of 0 then, HHH and HHM together 1/10.
        Due.due("held to 0 tenths", x.power(3, 1, 9, 13, 1), x.power(3, 1, 9, 13, 2), 1, 10);
        Due.due("a line that can't be reached", x.power(12, 9, 9, 1, 1), x.power(12, 9, 9, 1, 2), 0, 1);
        Due.due("of 12", x.power(12, 1, 9, 1, 1) > 0, true);
        // Of three pairs at most: HHHH 343 * 5, two pairs: HHHM 147 * 5, MHHH 49 * 5 * 3, of 10,000.
        Due.due("of four", x.power(4, 5, 2, 19, 0), 2);
        Due.due("of four", x.power(4, 5, 2, 19, 1), x.power(4, 5, 2, 19, 2), 637, 2000);
    }

    private static void powerEdges() {
        HotHand x = new HotHand();
        Due.due("n 1", x.power(1, 5, 3, 25, 0), HotHand.NONE);
        Due.due("n 13", x.power(13, 5, 3, 25, 0), HotHand.NONE);
        Due.due("p 0", x.power(2, 0, 3, 25, 0), HotHand.NONE);
        Due.due("p 10", x.power(2, 10, 3, 25, 0), HotHand.NONE);
        Due.due("e -1", x.power(2, 5, -1, 25, 0), HotHand.NONE);
        Due.due("e 10", x.power(2, 5, 10, 25, 0), HotHand.NONE);
        Due.due("w 0", x.power(2, 5, 3, 0, 0), HotHand.NONE);
        Due.due("w 100", x.power(2, 5, 3, 100, 0), HotHand.NONE);
        Due.due("what 3", x.power(2, 5, 3, 25, 3), HotHand.NONE);
        Due.due("what -1", x.power(2, 5, 3, 25, -1), HotHand.NONE);
    }

    private static void need() {
        HotHand x = new HotHand();
        Due.due("just 40", x.need(5, 3, 25, 40), 2);
        Due.due("more", x.need(5, 3, 25, 41) > 2, true);
        Due.due("nothing", x.need(5, 0, 1, 0), 2);
        Due.due("never sure", x.need(5, 9, 25, 100), HotHand.NONE);
        // By 5 tenths: of 2 at 24 nothing is seen, of 3 two pairs, HHH: 1/2 * 8/10 * 8/10 = 32 hundredths.
        Due.due("three", x.need(5, 3, 24, 32), 3);
        Due.due("more than three", x.need(5, 3, 24, 33) > 3, true);
        for (int n = 2; n < x.need(5, 3, 10, 45); n++) {
            Due.due("not yet", x.power(n, 5, 3, 10, 1) * 100 >= 45 * x.power(n, 5, 3, 10, 2), false);
        }
        Due.due("p 0", x.need(0, 3, 25, 40), HotHand.NONE);
        Due.due("p 10", x.need(10, 3, 25, 40), HotHand.NONE);
        Due.due("e -1", x.need(5, -1, 25, 40), HotHand.NONE);
        Due.due("e 10", x.need(5, 10, 25, 40), HotHand.NONE);
        Due.due("w 0", x.need(5, 3, 0, 40), HotHand.NONE);
        Due.due("w 100", x.need(5, 3, 100, 40), HotHand.NONE);
        Due.due("v -1", x.need(5, 3, 25, -1), HotHand.NONE);
        Due.due("v 101", x.need(5, 3, 25, 101), HotHand.NONE);
    }

    private static void strong() {
        HotHand x = new HotHand();
        Due.due("just 40", x.strong(2, 5, 25, 40), 3);
        Due.due("just 30", x.strong(2, 5, 25, 30), 1);
        Due.due("from 1 on", x.strong(2, 5, 25, 0), 1);
        Due.due("more than can be", x.strong(2, 5, 25, 51), HotHand.NONE);
        Due.due("the most that can be", x.strong(2, 5, 25, 50), 5);
        Due.due("the ninth", x.strong(2, 1, 1, 10), 9);
        Due.due("nothing seen", x.strong(2, 5, 24, 1), HotHand.NONE);
        Due.due("n 1", x.strong(1, 5, 25, 40), HotHand.NONE);
        Due.due("n 13", x.strong(13, 5, 25, 40), HotHand.NONE);
        Due.due("p 0", x.strong(2, 0, 25, 40), HotHand.NONE);
        Due.due("p 10", x.strong(2, 10, 25, 40), HotHand.NONE);
        Due.due("w 0", x.strong(2, 5, 0, 40), HotHand.NONE);
        Due.due("w 100", x.strong(2, 5, 100, 40), HotHand.NONE);
        Due.due("v -1", x.strong(2, 5, 25, -1), HotHand.NONE);
        Due.due("v 101", x.strong(2, 5, 25, 101), HotHand.NONE);
    }

    private static void say() {
        HotHand x = Due.with(5);
        Due.row(x, 0, "HHHHHMMMMM");
        // 6 of 252 orders have 4 pairs: 2.38 hundredths.
        Due.due("it's hot", x.say(0, 1, 3), 2);
        Due.due("not at 2", x.say(0, 1, 2), 0);
        Due.row(x, 1, "HMHM");
        Due.due("not seen: e 9", x.say(1, 9, 32), x.power(4, 5, 9, 32, 1) * 2 >= x.power(4, 5, 9, 32, 2) ? 1 : 0);
        Due.row(x, 2, "HM");
        // A line of 1 at 25; with 5 tenths the power is 50 hundredths, with 4 it's 45.
        Due.due("would have been seen", x.say(2, 5, 25), 1);
        Due.due("would not have been", x.say(2, 4, 25), 0);
        Due.due("no line", x.say(2, 5, 24), 0);
        Due.row(x, 3, "HH");
        Due.row(x, 3, "M");
        // 66 hundredths are 6 tenths: 36 hundredths for nothing.
        Due.due("6 tenths, cut", x.say(3, 1, 36), 0);
        Due.due("6 tenths, cut", x.say(3, 3, 36), 1);
        Due.due("all of one way: never hot below 100", x.say(3, 3, 99), 1);
        Due.row(x, 4, "MMMM");
        Due.due("1 tenth at least", x.say(4, 9, 3), x.power(4, 1, 9, 3, 1) * 2 >= x.power(4, 1, 9, 3, 2) ? 1 : 0);
    }

    private static void sayEdges() {
        HotHand x = Due.with(4);
        Due.row(x, 0, "H".repeat(24));
        Due.due("12 at most, 9 tenths at most", x.say(0, 1, 99), x.power(12, 9, 1, 99, 1) * 2 >= x.power(12, 9, 1, 99, 2) ? 1 : 0);
        Due.row(x, 1, "H");
        Due.row(x, 1, "M");
        Due.due("no row of 2", x.say(1, 5, 25), HotHand.NONE);
        Due.due("no row", x.say(2, 5, 25), HotHand.NONE);
        for (int i = 0; i < 3; i++) {
            Due.row(x, 3, "HM".repeat(12));
            Due.due("told up to 4 * 10^18 ways", x.say(3, 5, 25) == HotHand.NONE, i == 2);
        }
        Due.due("e 0", x.say(0, 0, 25), HotHand.NONE);
        Due.due("e 10", x.say(0, 10, 25), HotHand.NONE);
        Due.due("w 0", x.say(0, 5, 0), HotHand.NONE);
        Due.due("w 100", x.say(0, 5, 100), HotHand.NONE);
        Due.due("no such thrower", x.say(4, 5, 25), HotHand.NONE);
        Due.due("no such thrower", x.say(-1, 5, 25), HotHand.NONE);
        HotHand y = Due.with(1);
        // 24 of 24^13 orders and more: w times all of them is beyond a long.
        for (int i = 0; i < 12; i++) {
            Due.row(y, 0, "H" + "M".repeat(23));
        }
        Due.row(y, 0, "HHMM");
        Due.due("just a half of very many", y.say(0, 1, 50), 2);
        Due.due("just above", y.say(0, 1, 49) == 2, false);
    }
}
