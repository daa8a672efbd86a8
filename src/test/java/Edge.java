import java.util.ArrayList;
import java.util.List;
import java.util.function.IntToLongFunction;
import java.util.function.Supplier;
import java.util.function.ToLongFunction;

/** Calls at their boundaries: the last that is taken, the first that is refused, and what a refused one leaves. */
final class Edge {
    static final int NONE = HotHand.NONE;
    static final long NO = -1_000_000_000_000L;

    private Edge() {
    }

    /** From least to most an argument is taken; just outside and far away the call is refused. */
    static void of(String argument, int least, int most, long refused, IntToLongFunction call) {
        Due.due(argument + " " + least + " is refused", call.applyAsLong(least) == refused, false);
        Due.due(argument + " " + most + " is refused", call.applyAsLong(most) == refused, false);
        for (int v : new int[] {least - 1, most + 1, Integer.MIN_VALUE, Integer.MAX_VALUE}) {
            Due.due(argument + " " + v, call.applyAsLong(v), refused);
        }
    }

    /** A call that is refused leaves all as it is in a second object, made alike, that it isn't made on. */
    static void leaves(String call, Supplier<HotHand> made, long due, ToLongFunction<HotHand> refused) {
        HotHand x = made.get();
        HotHand y = made.get();
        Due.due(call, refused.applyAsLong(x), due);
        List<Long> had = seen(x);
        List<Long> left = seen(y);
        Due.due(call + ": as much is to be seen behind it", had.size(), left.size());
        for (int i = 0; i < Math.min(had.size(), left.size()); i++) {
            Due.due(call + ": what is seen behind it, " + i, had.get(i), left.get(i));
        }
    }

    /** Texts are read off the tape, draws made and images taken up, so the object has been used up then. */
    private static List<Long> seen(HotHand x) {
        List<Long> all = new ArrayList<>();
        seeCourt(x, all);
        for (int what = 4; what <= 33; what++) {
            all.add((long) x.count(what));
        }
        all.add((long) x.fault());
        int last = x.count(1) - 1;
        for (int m = 0; m < x.count(4); m++) {
            all.add(x.value(last, m, 0));
        }
        all.add(x.worlds(0, 24, 2, 0, 0));
        all.add((long) x.bets(0, 0, 0));
        all.add((long) x.next(last, 2));
        seeDraws(x, all);
        all.add((long) x.law(0, x.count(6)));
        all.add((long) x.fault());
        all.add((long) x.next(last, 2));
        for (int image = 0; image < x.count(5); image++) {
            x.back(image);
            seeCourt(x, all);
        }
        return all;
    }

    private static void seeCourt(HotHand x, List<Long> all) {
        for (int what = 0; what <= 3; what++) {
            all.add((long) x.count(what));
        }
        int last = x.count(1) - 1;
        for (int k = -1; k < x.told(last, -1, 1); k++) {
            for (int what = 0; what <= 2; what++) {
                all.add((long) x.told(last, k, what));
            }
        }
    }

    private static void seeDraws(HotHand x, List<Long> all) {
        int row = x.row(0);
        all.add((long) row);
        all.add((long) x.deal(row, 24));
        for (int k = 0; k < 24; k++) {
            all.add((long) x.told(row, k, 0));
        }
    }
}
