import java.lang.management.ManagementFactory;

/** Long runs live in one room: an object is small, and no call makes any. */
public final class RoomTest {
    private static final com.sun.management.ThreadMXBean BEAN =
            (com.sun.management.ThreadMXBean) ManagementFactory.getThreadMXBean();

    private static long taken() {
        return BEAN.getThreadAllocatedBytes(Thread.currentThread().getId());
    }

    public static void main(String[] args) {
        HotHand warm = new HotHand();
        use(warm);
        long before = taken();
        HotHand x = new HotHand();
        long made = taken() - before;
        Due.due("a new object takes less than 100,000 bytes: " + made, made < 100_000, true);
        setUp(x);
        before = taken();
        use(x);
        long used = taken() - before;
        Due.due("the dearest calls take next to nothing: " + used, used < 2_000, true);
        Due.end("RoomTest");
    }

    private static void setUp(HotHand x) {
        for (int i = 0; i < 12; i++) {
            x.thrower();
        }
        Due.law(x, 0, "hit 60 if run > 1 or not (miss > 2 and hits < 9); hard 2 if run > 0; guard 1; state 1 if run > 2;");
        Due.belief(x, 0, "hit if run > 0 and not (state = 1 or hard > 2); miss;");
        Due.measure(x, "after hit 1 - after miss 1 + longest hit - 2 first miss");
        Due.measure(x, "share");
        for (int i = 0; i < 20; i++) {
            x.row(i % 12);
            x.deal(i, 1 + i);
        }
    }

    private static void use(HotHand x) {
        for (int i = 0; i < 10; i++) {
            x.feed(0x68697420, 0x31303b68, 0x61726420, 0x333b6775, 0x61726431);
            x.law(1, 12);
            x.feed(0x68697420, 0x31303b68, 0x61726420, 0x333b6775, 0x61726431);
            x.measure(20);
            x.fault();
            x.shuffle(15, 0, 0);
            x.lean(0, 12, 5, 0);
            x.right(11, 0, 5, 0);
            x.together(0, 0);
            x.worlds(0, 24, 60, 0, 0);
            x.give(0, 1, 8, 1, 1, 2);
            x.need(5, 1, 5, 99);
            x.strong(12, 5, 5, 99);
            x.hidden(8, 8, 7, 3, 0);
            x.odds(0, 0, 0);
            x.groups(3, 0);
            x.above(3);
            x.pooled(4);
            x.foretold(0, 0, 100, 0);
            x.heat(0, 0);
            x.say(0, 3, 5);
            x.image();
            x.back(0);
            x.mean(-1, 0, 0);
            x.streak(60, 7);
            x.off(0, 0);
            x.chosen(0, 0);
            x.told(19, 19, 4);
            x.next(19, 2);
            x.deal(19, 1);
        }
    }
}
