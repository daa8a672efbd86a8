/** Promises 41, 42, 43: images, back, counts. */
public final class ImagesTest {
    public static void main(String[] args) {
        images();
        whatStays();
        freshRows();
        count();
        Due.end("ImagesTest");
    }

    private static void images() {
        HotHand x = Due.with(1);
        Due.due("no image", x.back(0), false);
        Due.due("image", x.image(), 0);
        x.thrower();
        Due.row(x, 1, "HHM");
        x.seed(5);
        Due.due("image", x.image(), 1);
        x.thrown(0, true, 3, 2);
        x.deal(0, 3);
        int fifth = x.told(0, 5, 0);
        Due.due("image", x.image(), 2);
        Due.due("a fourth", x.image(), HotHand.NONE);
        Due.due("images", x.count(5), 3);
        Due.due("no such image", x.back(3), false);
        Due.due("no such image", x.back(-1), false);
        Due.due("nothing done", x.count(2), 7);
        Due.due("back", x.back(1), true);
        Due.due("throwers", x.count(0), 2);
        Due.due("throws", x.count(2), 3);
        Due.due("hits", x.count(3), 2);
        x.thrown(0, true, 3, 2);
        x.deal(0, 3);
        Due.due("z as it was", x.told(0, 5, 0), fifth);
        Due.due("back", x.back(0), true);
        Due.due("throwers", x.count(0), 1);
        Due.due("rows", x.count(1), 0);
        Due.due("throws", x.count(2), 0);
        Due.due("forward", x.back(2), true);
        Due.due("throwers", x.count(0), 2);
        Due.due("throws", x.count(2), 7);
        Due.due("hard", x.told(0, 3, 1), 3);
        Due.due("guards", x.told(0, 3, 2), 2);
        Due.due("the images stay", x.count(5), 3);
        x.thrown(0, false, 0, 0);
        Due.due("back again", x.back(2), true);
        Due.due("an image isn't changed by throws behind it", x.count(2), 7);
    }

    private static void whatStays() {
        HotHand x = Due.with(1);
        Due.row(x, 0, "H");
        Due.law(x, 0, "hit 10; state 1;");
        x.image();
        Due.law(x, 0, "hit 20; hit 30; state 2;");
        Due.belief(x, 2, "hit;");
        Due.measure(x, "share");
        Due.law(x, 0, "hit 20; hit 30; state 2; ?");
        x.feed(0, 0, 0, 0, 0);
        x.back(0);
        Due.due("the law stays", x.count(10), 3);
        Due.due("by the law that's told now", x.next(0, 2), 20);
        Due.due("by the law that's told now", x.next(0, 3), 2);
        Due.due("the belief stays", x.count(32), 1);
        Due.due("the measure stays", x.count(4), 1);
        Due.due("the tape stays", x.count(6), 20);
        Due.due("the fault stays", x.fault(), 25);
    }

    private static void freshRows() {
        HotHand x = Due.with(2);
        x.image();
        x.row(1);
        for (int i = 0; i < 24; i++) {
            x.thrown(0, true, 3, 3);
        }
        x.back(0);
        Due.due("a row anew", x.row(0), 0);
        Due.due("of the other one", x.told(0, -1, 0), 0);
        Due.due("empty", x.told(0, -1, 1), 0);
        Due.due("without hits", x.told(0, -1, 2), 0);
        x.thrown(0, false, 1, 0);
        Due.due("hard", x.told(0, 0, 1), 1);
        Due.due("guards", x.told(0, 0, 2), 0);
        Due.due("a miss", x.told(0, 0, 0), 0);
    }

    private static void count() {
        HotHand x = Due.with(3);
        Due.row(x, 0, "HHM");
        Due.row(x, 2, "MMMH");
        Due.measure(x, "hits");
        x.image();
        Due.law(x, 2, "hit 1; harder 3;");
        Due.belief(x, 3, "hit; miss; pass;");
        x.feed(0, 0, 0, 0, 0);
        int[] due = {3, 2, 7, 3, 1, 1, 20};
        for (int what = 0; what <= 6; what++) {
            Due.due("count " + what, x.count(what), due[what]);
        }
        for (int what = 7; what <= 9; what++) {
            Due.due("count " + what, x.count(what), HotHand.NONE);
        }
        Due.due("rules", x.count(12), 2);
        Due.due("rules without a law", x.count(10), 0);
        for (int what = 22; what <= 29; what++) {
            Due.due("count " + what, x.count(what), HotHand.NONE);
        }
        Due.due("statements", x.count(33), 3);
        Due.due("statements without a belief", x.count(30), 0);
        Due.due("count 34", x.count(34), HotHand.NONE);
        Due.due("count -1", x.count(-1), HotHand.NONE);
        HotHand y = new HotHand();
        y.image();
        for (int i = 0; i < 12; i++) {
            y.thrower();
        }
        Due.law(y, 11, "hit 1;");
        y.back(0);
        Due.due("the law told for that number", y.count(21), 1);
    }
}
