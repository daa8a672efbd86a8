import java.util.Arrays;

/**
 * Throws in rows, throwers by laws, measures and their odds, as the document's numbered promises say.
 * Every row that a call needs is made once, in the constructors: no call makes an object.
 */
public final class HotHand {
    /** There is none. */
    public static final int NONE = -1;

    private static final int NOT_TAKEN = -2;
    private static final int NO_ROOM = -3;
    private static final long NO_FRACTION = -1_000_000_000_000L;

    private static final int MOST_THROWERS = 12;
    private static final int MOST_ROWS = 60;
    private static final int MOST_THROWS = 24;
    private static final int MOST_WATCHERS = 4;
    private static final int MOST_MEASURES = 12;
    private static final int MOST_IMAGES = 3;
    private static final int MOST_BYTES = 600;
    private static final int MOST_RULES = 24;
    private static final int MOST_TERMS = 4;
    private static final int MOST_OPEN = 8;
    private static final int MOST_GUARDS = 3;
    private static final int MOST_BEHIND = 5;
    private static final int MOST_SHUFFLED = 16;
    private static final int MOST_LEANED = 12;
    private static final int MOST_TRIED = 12;
    private static final int MOST_GAME = 8;
    private static final int MOST_HIDDEN = 9;
    private static final int MOST_STREAK = 60;
    private static final int MOST_LAID = 60;
    private static final long MOST_WAYS = 4_000_000_000_000_000_000L;

    // The least number that 1 to 24 all divide: VALUES times it are whole, so they add and compare exactly.
    private static final long SCALE = 5_354_228_880L;
    // The like of 1 to 12: with it a LEAN's sums stay below 2 to the 63rd.
    private static final long SHORT_SCALE = 27_720L;
    // Below all VALUES times SCALE.
    private static final long NO_VALUE = -9_000_000_000_000_000_000L;

    private static final long[] TENS = {
        1L, 10L, 100L, 1_000L, 10_000L, 100_000L, 1_000_000L, 10_000_000L, 100_000_000L, 1_000_000_000L,
        10_000_000_000L, 100_000_000_000L, 1_000_000_000_000L, 10_000_000_000_000L, 100_000_000_000_000L,
        1_000_000_000_000_000L, 10_000_000_000_000_000L
    };

    private final Court court = new Court();
    private final Court[] images = new Court[MOST_IMAGES];
    private int imageCount = 0;
    private final Rules[] laws = new Rules[MOST_THROWERS];
    private final Rules[] beliefs = new Rules[MOST_WATCHERS];
    private Rules spare = new Rules();
    private final Measure[] measures = new Measure[MOST_MEASURES];
    private int measureCount = 0;
    private final Reader reader = new Reader();
    private int faultPlace = NONE;
    private final Asked asked = new Asked();
    private final Leaning leaning = new Leaning();
    private final Shuffles shuffles = new Shuffles();
    private final Trial trial = new Trial();
    private final Game game = new Game();
    private final int[] people = new int[MOST_THROWERS];
    private final long[] without = new long[MOST_STREAK + 1];

    public HotHand() {
        for (int i = 0; i < MOST_IMAGES; i++) {
            images[i] = new Court();
        }
        for (int i = 0; i < MOST_THROWERS; i++) {
            laws[i] = new Rules();
        }
        for (int i = 0; i < MOST_WATCHERS; i++) {
            beliefs[i] = new Rules();
        }
        for (int i = 0; i < MOST_MEASURES; i++) {
            measures[i] = new Measure();
        }
    }

    // ---- texts ----

    public int feed(int a, int b, int c, int d, int e) {
        if (reader.held + 20 > MOST_BYTES) {
            return NONE;
        }
        reader.put(a);
        reader.put(b);
        reader.put(c);
        reader.put(d);
        reader.put(e);
        return reader.held;
    }

    public int law(int thrower, int n) {
        if (!isOnTape(n) || !court.hasThrower(thrower)) {
            return NOT_TAKEN;
        }
        if (!closeText(reader.readRules(n, true, spare))) {
            return NONE;
        }
        Rules old = laws[thrower];
        laws[thrower] = spare;
        spare = old;
        return laws[thrower].count;
    }

    public int belief(int watcher, int n) {
        if (!isOnTape(n) || !isWatcher(watcher)) {
            return NOT_TAKEN;
        }
        if (!closeText(reader.readRules(n, false, spare))) {
            return NONE;
        }
        Rules old = beliefs[watcher];
        beliefs[watcher] = spare;
        spare = old;
        return beliefs[watcher].count;
    }

    public int measure(int n) {
        if (!isOnTape(n)) {
            return NOT_TAKEN;
        }
        if (measureCount >= MOST_MEASURES) {
            return NO_ROOM;
        }
        if (!closeText(reader.readMeasure(n, measures[measureCount]))) {
            return NONE;
        }
        measureCount++;
        return measureCount - 1;
    }

    public int fault() {
        return faultPlace;
    }

    private boolean isOnTape(int n) {
        return n >= 0 && n <= reader.held;
    }

    private boolean closeText(boolean good) {
        faultPlace = good ? NONE : reader.placeNow();
        reader.held = 0;
        return good;
    }

    // ---- throwers, rows, throws ----

    public int thrower() {
        if (court.throwers >= MOST_THROWERS) {
            return NONE;
        }
        court.throwers++;
        return court.throwers - 1;
    }

    public boolean seed(int v) {
        if (v < 0 || v > 999_999_999) {
            return false;
        }
        court.z = v;
        return true;
    }

    public int row(int thrower) {
        if (!court.hasThrower(thrower) || court.rows >= MOST_ROWS) {
            return NONE;
        }
        return court.addRow(thrower);
    }

    public int thrown(int row, boolean hit, int hard, int guard) {
        if (!court.hasRow(row) || !isIn(hard, 0, 3) || !isIn(guard, 0, MOST_GUARDS)
                || court.lengths[row] >= MOST_THROWS) {
            return NONE;
        }
        court.addThrow(row, hit, hard, guard);
        return court.lengths[row];
    }

    public int deal(int row, int n) {
        if (!court.hasRow(row) || !isIn(n, 1, MOST_THROWS) || court.lengths[row] + n > MOST_THROWS) {
            return NONE;
        }
        Rules law = lawOf(row);
        walkTo(row, court.lengths[row]);
        int hits = 0;
        for (int i = 0; i < n; i++) {
            law.aim(asked);
            court.z = drawn(court.z);
            boolean hit = isHit(court.z, law.chanceOf(asked));
            court.addThrow(row, hit, asked.hard, asked.guard);
            law.goOn(asked, hit);
            hits += hit ? 1 : 0;
        }
        return hits;
    }

    public int told(int row, int k, int what) {
        if (!court.hasRow(row)) {
            return NONE;
        }
        if (k == NONE) {
            return toldOfRow(row, what);
        }
        if (k < 0 || k >= court.lengths[row]) {
            return NONE;
        }
        walkTo(row, k);
        switch (what) {
            case 0: return court.isHitAt(row, k) ? 1 : 0;
            case 1: return asked.hard;
            case 2: return asked.guard;
            case 3: return asked.state;
            case 4: return lawOf(row).chanceOf(asked);
            case 5: return asked.run;
            case 6: return asked.miss;
            case 7: return asked.hits;
            default: return NONE;
        }
    }

    private int toldOfRow(int row, int what) {
        switch (what) {
            case 0: return court.owners[row];
            case 1: return court.lengths[row];
            case 2: return Integer.bitCount(court.hits[row]);
            default: return NONE;
        }
    }

    public int next(int row, int what) {
        if (!court.hasRow(row)) {
            return NONE;
        }
        Rules law = lawOf(row);
        walkTo(row, court.lengths[row]);
        law.aim(asked);
        switch (what) {
            case 0: return asked.hard;
            case 1: return asked.guard;
            case 2: return law.chanceOf(asked);
            case 3: return asked.state;
            default: return NONE;
        }
    }

    private Rules lawOf(int row) {
        return laws[court.owners[row]];
    }

    /** Leaves in asked what is ASKED ahead of the THROW k; k may be the one that comes next. */
    private void walkTo(int row, int k) {
        Rules law = lawOf(row);
        asked.clear();
        for (int i = 0; i < k; i++) {
            court.show(row, i, asked);
            law.goOn(asked, court.isHitAt(row, i));
        }
        if (k < court.lengths[row]) {
            court.show(row, k, asked);
        }
    }

    private static long drawn(long z) {
        return z * 6_364_136_223_846_793_005L + 1_442_695_040_888_963_407L;
    }

    private static boolean isHit(long z, int chance) {
        return (z >>> 33) % 100 < chance;
    }

    // ---- measures ----

    public long value(int row, int measure, int what) {
        if (!court.hasRow(row) || !isMeasure(measure) || !isIn(what, 0, 1)) {
            return NO_FRACTION;
        }
        long value = measures[measure].reckon(court.hits[row], court.lengths[row], SCALE);
        return value == NO_VALUE ? NO_FRACTION : part(value, SCALE, what);
    }

    public long mean(int thrower, int measure, int what) {
        if ((thrower != NONE && !court.hasThrower(thrower)) || !isMeasure(measure) || !isIn(what, 0, 1)) {
            return NO_FRACTION;
        }
        long sum = 0;
        int found = 0;
        for (int row = 0; row < court.rows; row++) {
            if (court.isOf(row, thrower)) {
                long value = measures[measure].reckon(court.hits[row], court.lengths[row], SCALE);
                if (value != NO_VALUE) {
                    sum += value;
                    found++;
                }
            }
        }
        return found == 0 ? NO_FRACTION : part(sum, SCALE * found, what);
    }

    public int joined(int thrower, boolean hit, int n, int what) {
        if (!court.hasThrower(thrower) || !isIn(n, 1, MOST_BEHIND) || !isIn(what, 0, 1)) {
            return NONE;
        }
        return court.countBehind(thrower, hit, n, what == 0);
    }

    public long lean(int measure, int n, int p, int what) {
        if (!isMeasure(measure) || !isIn(n, 1, MOST_LEANED) || !isIn(p, 1, 9) || !isIn(what, 0, 1)) {
            return NO_FRACTION;
        }
        leaning.reckon(measures[measure], n, p);
        return part(leaning.upper, SHORT_SCALE * leaning.weight, what);
    }

    public long right(int row, int measure, int p, int what) {
        if (!court.hasRow(row) || !isMeasure(measure) || !isIn(p, 1, 9) || !isIn(what, 0, 1)) {
            return NO_FRACTION;
        }
        int length = court.lengths[row];
        if (!isIn(length, 1, MOST_LEANED)) {
            return NO_FRACTION;
        }
        long value = measures[measure].reckon(court.hits[row], length, SHORT_SCALE);
        if (value == NO_VALUE) {
            return NO_FRACTION;
        }
        leaning.reckon(measures[measure], length, p);
        return part(value * leaning.weight - leaning.upper, SHORT_SCALE * leaning.weight, what);
    }

    public long shuffle(int row, int measure, int what) {
        if (!court.hasRow(row) || !isMeasure(measure) || !isIn(what, 0, 1)) {
            return NONE;
        }
        int length = court.lengths[row];
        if (!isIn(length, 1, MOST_SHUFFLED)) {
            return NONE;
        }
        long own = measures[measure].reckon(court.hits[row], length, SCALE);
        if (own == NO_VALUE) {
            return NONE;
        }
        return ordersWith(measures[measure], length, Integer.bitCount(court.hits[row]), what == 0 ? own : NO_VALUE + 1);
    }

    /** How many orders have a VALUE of at least the one given (times SCALE). */
    private static long ordersWith(Measure measure, int length, int hits, long least) {
        long orders = choose(length, hits);
        int bits = (1 << hits) - 1;
        long found = 0;
        for (long i = 0; i < orders; i++) {
            if (measure.reckon(bits, length, SCALE) >= least) {
                found++;
            }
            bits = nextAlike(bits);
        }
        return found;
    }

    /** The next greater number with as many bits set, so that no other rows are looked at. */
    private static int nextAlike(int bits) {
        int low = bits & -bits;
        if (low == 0) {
            return 0;
        }
        int risen = bits + low;
        return (((risen ^ bits) >>> 2) / low) | risen;
    }

    public long together(int thrower, int what) {
        if (!court.hasThrower(thrower) || !isIn(what, 0, 2) || !shuffles.reckon(court, thrower)) {
            return NONE;
        }
        switch (what) {
            case 0: return shuffles.atLeast(court, thrower);
            case 1: return shuffles.all;
            default: return shuffles.pairs;
        }
    }

    public long streak(int n, int k) {
        if (!isIn(n, 1, MOST_STREAK) || !isIn(k, 1, MOST_STREAK)) {
            return NONE;
        }
        for (int i = 0; i <= n; i++) {
            without[i] = i < k ? 1L << i : 0;
            for (int last = 1; i >= k && last <= k; last++) {
                without[i] += without[i - last];
            }
        }
        return (1L << n) - without[n];
    }

    // ---- trials ----

    public long power(int n, int p, int e, int w, int what) {
        if (!isTrial(n, p, w) || !isIn(e, 0, 9) || !isIn(what, 0, 2)) {
            return NONE;
        }
        int line = trial.lineAt(n, p, w);
        return what == 0 ? line : part(trial.atLeast(n, p, e, line), TENS[n], what - 1);
    }

    public int need(int p, int e, int w, int v) {
        if (!isTrial(2, p, w) || !isIn(e, 0, 9) || !isIn(v, 0, 100)) {
            return NONE;
        }
        for (int n = 2; n <= MOST_TRIED; n++) {
            if (trial.isSeen(n, p, e, w, v)) {
                return n;
            }
        }
        return NONE;
    }

    public int strong(int n, int p, int w, int v) {
        if (!isTrial(n, p, w) || !isIn(v, 0, 100)) {
            return NONE;
        }
        for (int e = 1; e <= 9; e++) {
            if (trial.isSeen(n, p, e, w, v)) {
                return e;
            }
        }
        return NONE;
    }

    private static boolean isTrial(int n, int p, int w) {
        return isIn(n, 2, MOST_TRIED) && isIn(p, 1, 9) && isIn(w, 1, 99);
    }

    // ---- hardness, people ----

    public int hards(int thrower, int hard, int what) {
        if (!court.hasThrower(thrower) || !isIn(hard, 0, 3) || !isIn(what, 0, 3)) {
            return NONE;
        }
        return court.countHard(thrower, hard, what);
    }

    public long off(int thrower, int what) {
        if (!court.hasThrower(thrower) || !isIn(what, 0, 1)) {
            return NO_FRACTION;
        }
        long upper = 0;
        long lower = 1;
        for (int hard = 0; hard <= 3; hard++) {
            long all = court.countHard(thrower, hard, 1);
            if (all > 0) {
                long less = court.countHard(thrower, hard, 2) * all
                        - court.countHard(thrower, hard, 3) * (long) court.countHard(thrower, hard, 0);
                upper = upper * all + less * lower;
                lower *= all;
            }
        }
        return part(upper, lower, what);
    }

    public long chosen(int thrower, int what) {
        if (!court.hasThrower(thrower) || !isIn(what, 0, 1)) {
            return NO_FRACTION;
        }
        long behind = 0;
        long behindHard = 0;
        long others = 0;
        long othersHard = 0;
        for (int hard = 0; hard <= 3; hard++) {
            int such = court.countHard(thrower, hard, 3);
            int rest = court.countHard(thrower, hard, 1) - such;
            behind += such;
            behindHard += such * hard;
            others += rest;
            othersHard += rest * hard;
        }
        return part(behindHard * others - othersHard * behind, behind * others, what);
    }

    public int hundredths(int thrower) {
        return court.hasThrower(thrower) ? hundredthsOf(thrower) : NONE;
    }

    private int hundredthsOf(int thrower) {
        int all = court.countThrows(thrower);
        return all == 0 ? NONE : court.countHits(thrower) * 100 / all;
    }

    public int groups(int k, int what) {
        if (!isIn(k, 1, 3) || !isIn(what, 0, 3)) {
            return NONE;
        }
        int found = sortPeople();
        if (found < k) {
            return NONE;
        }
        int best = NONE;
        int first = 0;
        int second = 0;
        for (int a = 1; a <= found; a++) {
            for (int b = 0; a + b <= found; b++) {
                int c = found - a - b;
                if ((b > 0) == (k > 1) && (c > 0) == (k > 2)) {
                    int sum = apart(0, a) + apart(a, b) + apart(a + b, c);
                    if (best == NONE || sum < best) {
                        best = sum;
                        first = a;
                        second = b;
                    }
                }
            }
        }
        switch (what) {
            case 0: return best;
            case 1: return first;
            case 2: return second;
            default: return found - first - second;
        }
    }

    /** Puts the HUNDREDTHS that there are in order: how many. */
    private int sortPeople() {
        int found = 0;
        for (int thrower = 0; thrower < court.throwers; thrower++) {
            int own = hundredthsOf(thrower);
            if (own != NONE) {
                int at = found;
                while (at > 0 && people[at - 1] > own) {
                    people[at] = people[at - 1];
                    at--;
                }
                people[at] = own;
                found++;
            }
        }
        return found;
    }

    private int apart(int from, int size) {
        int sum = 0;
        for (int i = from; i < from + size; i++) {
            sum += Math.abs(people[i] - people[from + (size - 1) / 2]);
        }
        return sum;
    }

    public int above(int d) {
        if (!isIn(d, 0, 100)) {
            return NONE;
        }
        int found = 0;
        for (int thrower = 0; thrower < court.throwers; thrower++) {
            long all = allBehindBoth(thrower);
            if (all > 0 && moreBehindHit(thrower) * 100 >= d * all) {
                found |= 1 << thrower;
            }
        }
        return found;
    }

    public int pooled(int what) {
        switch (what) {
            case 0: return court.countBehind(NONE, true, 1, true);
            case 1: return court.countBehind(NONE, true, 1, false);
            case 2: return court.countBehind(NONE, false, 1, true);
            case 3: return court.countBehind(NONE, false, 1, false);
            case 4: return throwersLeaning(1);
            case 5: return throwersLeaning(-1);
            default: return NONE;
        }
    }

    private int throwersLeaning(int way) {
        int found = 0;
        for (int thrower = 0; thrower < court.throwers; thrower++) {
            if (moreBehindHit(thrower) * way > 0) {
                found++;
            }
        }
        return found;
    }

    /** The lower number that the shares behind a HIT and behind a miss have in common; 0 if one isn't told. */
    private long allBehindBoth(int thrower) {
        return (long) court.countBehind(thrower, true, 1, false) * court.countBehind(thrower, false, 1, false);
    }

    /** The share behind a HIT less that behind a miss, times the number above; so 0, too, if one isn't told. */
    private long moreBehindHit(int thrower) {
        return (long) court.countBehind(thrower, true, 1, true) * court.countBehind(thrower, false, 1, false)
                - (long) court.countBehind(thrower, false, 1, true) * court.countBehind(thrower, true, 1, false);
    }

    public int season(int from, int to, boolean hit, int n, int what) {
        if (!court.hasRow(from) || !court.hasRow(to) || from > to || !isIn(n, 1, MOST_BEHIND) || !isIn(what, 0, 1)) {
            return NONE;
        }
        int found = 0;
        for (int row = from; row <= to; row++) {
            found += court.countBehindIn(row, hit, n, what == 0);
        }
        return found;
    }

    // ---- hidden states, watchers ----

    public long hidden(int row, int stay, int hot, int cold, int what) {
        if (!court.hasRow(row) || !isIn(stay, 0, 10) || !isIn(hot, 0, 10) || !isIn(cold, 0, 10)
                || !isIn(what, 0, 2) || !isIn(court.lengths[row], 1, MOST_HIDDEN)) {
            return NONE;
        }
        long all = 0;
        long best = NONE;
        int likeliest = 0;
        for (int path = 0; path < 1 << court.lengths[row]; path++) {
            long weight = pathWeight(row, path, stay, hot, cold);
            all += weight;
            if (weight > best) {
                best = weight;
                likeliest = path;
            }
        }
        switch (what) {
            case 0: return likeliest;
            case 1: return best;
            default: return all;
        }
    }

    private long pathWeight(int row, int path, int stay, int hot, int cold) {
        long weight = 1;
        for (int k = 0; k < court.lengths[row]; k++) {
            int now = (path >> k) & 1;
            if (k > 0) {
                weight *= now == ((path >> (k - 1)) & 1) ? stay : 10 - stay;
            }
            int chance = now == 1 ? hot : cold;
            weight *= court.isHitAt(row, k) ? chance : 10 - chance;
        }
        return weight;
    }

    public int bets(int watcher, int thrower, int what) {
        if (!isWatcher(watcher) || !court.hasThrower(thrower) || !isIn(what, 0, 3)) {
            return NONE;
        }
        return countBets(watcher, thrower, what < 2, what % 2 == 1);
    }

    private int countBets(int watcher, int thrower, boolean onHit, boolean right) {
        int found = 0;
        for (int row = 0; row < court.rows; row++) {
            if (court.isOf(row, thrower)) {
                asked.clear();
                for (int k = 0; k < court.lengths[row]; k++) {
                    court.show(row, k, asked);
                    boolean hit = court.isHitAt(row, k);
                    int bet = beliefs[watcher].betOn(asked);
                    if (bet == (onHit ? Word.HIT : Word.MISS) && (!right || hit == onHit)) {
                        found++;
                    }
                    laws[thrower].goOn(asked, hit);
                }
            }
        }
        return found;
    }

    public long odds(int watcher, int thrower, int what) {
        if (!isWatcher(watcher) || !court.hasThrower(thrower) || !isIn(what, 0, 1)) {
            return NONE;
        }
        int all = court.countThrows(thrower);
        if (all > MOST_LAID) {
            return NONE;
        }
        int laid = countBets(watcher, thrower, true, false);
        if (what == 1) {
            return choose(all, laid);
        }
        int hits = court.countHits(thrower);
        long ways = 0;
        for (int right = countBets(watcher, thrower, true, true); right <= laid; right++) {
            ways += choose(hits, right) * choose(all - hits, laid - right);
        }
        return ways;
    }

    // ---- games, worlds ----

    public long give(int one, int other, int n, int k, int more, int what) {
        if (!court.hasThrower(one) || !court.hasThrower(other) || one == other || !isIn(n, 1, MOST_GAME)
                || !isIn(k, 1, 5) || !isIn(more, 0, MOST_GUARDS) || !isIn(what, 0, 3)) {
            return NONE;
        }
        game.begin(laws[one], laws[other], n);
        if (what >= 2) {
            game.giveAt(k, more);
        }
        return part(hitsFrom(game, 0), TENS[2 * n], what % 2);
    }

    /** HITS in the mean from this throw on, times 100 for each throw that is left. */
    private static long hitsFrom(Game game, int at) {
        if (at >= game.length || at >= MOST_GAME) {
            return 0;
        }
        int chance = game.aimAt(at);
        long sum = 0;
        if (chance > 0) {
            game.follow(at, true);
            sum += chance * (TENS[2 * (game.length - at - 1)] + hitsFrom(game, at + 1));
        }
        if (chance < 100) {
            game.follow(at, false);
            sum += (100 - chance) * hitsFrom(game, at + 1);
        }
        return sum;
    }

    public long worlds(int thrower, int n, int many, int measure, int what) {
        if (!court.hasThrower(thrower) || !isIn(n, 1, MOST_THROWS) || !isIn(many, 1, MOST_ROWS)
                || !isMeasure(measure) || !isIn(what, 0, 2)) {
            return NO_FRACTION;
        }
        long z = court.z;
        long sum = 0;
        int found = 0;
        for (int i = 0; i < many; i++) {
            int bits = 0;
            asked.clear();
            for (int k = 0; k < n; k++) {
                laws[thrower].aim(asked);
                z = drawn(z);
                boolean hit = isHit(z, laws[thrower].chanceOf(asked));
                bits |= hit ? 1 << k : 0;
                laws[thrower].goOn(asked, hit);
            }
            long value = measures[measure].reckon(bits, n, SCALE);
            if (value != NO_VALUE) {
                sum += value;
                found++;
            }
        }
        if (what == 2) {
            return found;
        }
        return found == 0 ? NO_FRACTION : part(sum, SCALE * found, what);
    }

    public int foretold(int thrower, int from, int to, int what) {
        if (!court.hasThrower(thrower) || !isIn(from, 0, 100) || !isIn(to, 0, 100) || !isIn(what, 0, 2)) {
            return NONE;
        }
        int found = 0;
        for (int row = 0; row < court.rows; row++) {
            if (court.isOf(row, thrower)) {
                asked.clear();
                for (int k = 0; k < court.lengths[row]; k++) {
                    court.show(row, k, asked);
                    boolean hit = court.isHitAt(row, k);
                    int chance = laws[thrower].chanceOf(asked);
                    if (isIn(chance, from, to)) {
                        found += what == 0 ? chance : what == 2 || hit ? 1 : 0;
                    }
                    laws[thrower].goOn(asked, hit);
                }
            }
        }
        return found;
    }

    public int heat(int thrower, int what) {
        if (!court.hasThrower(thrower) || !isIn(what, 0, 3)) {
            return NONE;
        }
        int all = 0;
        int hits = 0;
        int stretches = 0;
        int longest = 0;
        for (int row = 0; row < court.rows; row++) {
            if (court.isOf(row, thrower)) {
                int hot = hotBits(row);
                all += Integer.bitCount(hot);
                hits += Integer.bitCount(hot & court.hits[row]);
                stretches += Integer.bitCount(hot & ~(hot << 1));
                longest = Math.max(longest, longestOf(hot));
            }
        }
        switch (what) {
            case 0: return all;
            case 1: return hits;
            case 2: return stretches;
            default: return longest;
        }
    }

    private int hotBits(int row) {
        Rules law = lawOf(row);
        int hot = 0;
        asked.clear();
        for (int k = 0; k < court.lengths[row]; k++) {
            court.show(row, k, asked);
            hot |= asked.state > 0 ? 1 << k : 0;
            law.goOn(asked, court.isHitAt(row, k));
        }
        return hot;
    }

    public int say(int thrower, int e, int w) {
        if (!court.hasThrower(thrower) || !isIn(e, 1, 9) || !isIn(w, 1, 99)) {
            return NONE;
        }
        int longest = court.longestRow(thrower);
        if (longest < 2 || !shuffles.reckon(court, thrower)) {
            return NONE;
        }
        // Parted by 100 ahead of the product, which would not fit.
        long line = shuffles.all / 100 * w + shuffles.all % 100 * w / 100;
        if (shuffles.atLeast(court, thrower) <= line) {
            return 2;
        }
        int tenths = Math.max(1, Math.min(9, hundredthsOf(thrower) / 10));
        return trial.isSeen(Math.min(longest, MOST_TRIED), tenths, e, w, 50) ? 1 : 0;
    }

    // ---- images, counts ----

    public int image() {
        if (imageCount >= MOST_IMAGES) {
            return NONE;
        }
        images[imageCount].copy(court);
        imageCount++;
        return imageCount - 1;
    }

    public boolean back(int image) {
        if (image < 0 || image >= imageCount) {
            return false;
        }
        court.copy(images[image]);
        return true;
    }

    public int count(int what) {
        if (isIn(what, 10, 9 + MOST_THROWERS)) {
            return laws[what - 10].count;
        }
        if (isIn(what, 30, 29 + MOST_WATCHERS)) {
            return beliefs[what - 30].count;
        }
        switch (what) {
            case 0: return court.throwers;
            case 1: return court.rows;
            case 2: return court.countThrows(NONE);
            case 3: return court.countHits(NONE);
            case 4: return measureCount;
            case 5: return imageCount;
            case 6: return reader.held;
            default: return NONE;
        }
    }

    // ---- small helpers ----

    private static boolean isIn(int v, int least, int most) {
        return v >= least && v <= most;
    }

    private static boolean isWatcher(int watcher) {
        return isIn(watcher, 0, MOST_WATCHERS - 1);
    }

    private boolean isMeasure(int measure) {
        return measure >= 0 && measure < measureCount;
    }

    /** A part of a fraction in lowest terms: the upper number (0) or the lower one (1); none with 0 below. */
    private static long part(long upper, long lower, int what) {
        if (lower <= 0) {
            return NO_FRACTION;
        }
        long common = Math.abs(upper);
        long rest = lower;
        // No two numbers of 63 bits need more than 91 steps.
        for (int step = 0; step < 100 && rest != 0; step++) {
            long left = common % rest;
            common = rest;
            rest = left;
        }
        if (common == 0) {
            return NO_FRACTION;
        }
        return (what == 0 ? upper : lower) / common;
    }

    /** Ways to choose k of n; each step stays whole and, for n up to 60, below 2 to the 63rd. */
    private static long choose(int n, int k) {
        if (k < 0 || k > n) {
            return 0;
        }
        long ways = 1;
        for (int i = 0; i < k; i++) {
            ways = ways * (n - i) / (i + 1);
        }
        return ways;
    }

    private static int ofBits(int bits, int length, boolean hit) {
        return hit ? bits : ~bits & ((1 << length) - 1);
    }

    /** The THROWS, as bits, with n HITS (or misses) just ahead of them. */
    private static int behindBits(int bits, int length, boolean hit, int n) {
        int of = ofBits(bits, length, hit);
        int found = (1 << length) - 1;
        for (int k = 1; k <= n; k++) {
            found &= of << k;
        }
        return found;
    }

    /** The most bits one behind the other: each step takes the last of every such row off. */
    private static int longestOf(int bits) {
        int longest = 0;
        for (int left = bits; left != 0 && longest < MOST_THROWS; left &= left << 1) {
            longest++;
        }
        return longest;
    }

    /** All that an IMAGE keeps; a THROW is a bit of hits and two bits each of hards and guards. */
    private static final class Court {
        int throwers = 0;
        int rows = 0;
        long z = 1;
        final int[] owners = new int[MOST_ROWS];
        final int[] lengths = new int[MOST_ROWS];
        final int[] hits = new int[MOST_ROWS];
        final long[] hards = new long[MOST_ROWS];
        final long[] guards = new long[MOST_ROWS];

        void copy(Court from) {
            throwers = from.throwers;
            rows = from.rows;
            z = from.z;
            System.arraycopy(from.owners, 0, owners, 0, MOST_ROWS);
            System.arraycopy(from.lengths, 0, lengths, 0, MOST_ROWS);
            System.arraycopy(from.hits, 0, hits, 0, MOST_ROWS);
            System.arraycopy(from.hards, 0, hards, 0, MOST_ROWS);
            System.arraycopy(from.guards, 0, guards, 0, MOST_ROWS);
        }

        boolean hasThrower(int thrower) {
            return thrower >= 0 && thrower < throwers;
        }

        boolean hasRow(int row) {
            return row >= 0 && row < rows;
        }

        boolean isOf(int row, int thrower) {
            return thrower == NONE || owners[row] == thrower;
        }

        int addRow(int thrower) {
            // All else is 0 here: copy() brings what lies behind the last ROW of an IMAGE, too.
            owners[rows] = thrower;
            rows++;
            return rows - 1;
        }

        void addThrow(int row, boolean hit, int hard, int guard) {
            int at = lengths[row];
            hits[row] |= hit ? 1 << at : 0;
            hards[row] |= (long) hard << (2 * at);
            guards[row] |= (long) guard << (2 * at);
            lengths[row] = at + 1;
        }

        boolean isHitAt(int row, int k) {
            return ((hits[row] >> k) & 1) == 1;
        }

        void show(int row, int k, Asked asked) {
            asked.hard = (int) ((hards[row] >>> (2 * k)) & 3);
            asked.guard = (int) ((guards[row] >>> (2 * k)) & 3);
        }

        int countThrows(int thrower) {
            int found = 0;
            for (int row = 0; row < rows; row++) {
                found += isOf(row, thrower) ? lengths[row] : 0;
            }
            return found;
        }

        int countHits(int thrower) {
            int found = 0;
            for (int row = 0; row < rows; row++) {
                found += isOf(row, thrower) ? Integer.bitCount(hits[row]) : 0;
            }
            return found;
        }

        int longestRow(int thrower) {
            int longest = 0;
            for (int row = 0; row < rows; row++) {
                if (isOf(row, thrower)) {
                    longest = Math.max(longest, lengths[row]);
                }
            }
            return longest;
        }

        int countBehind(int thrower, boolean hit, int n, boolean hitsOnly) {
            int found = 0;
            for (int row = 0; row < rows; row++) {
                if (isOf(row, thrower)) {
                    found += countBehindIn(row, hit, n, hitsOnly);
                }
            }
            return found;
        }

        int countBehindIn(int row, boolean hit, int n, boolean hitsOnly) {
            int behind = behindBits(hits[row], lengths[row], hit, n);
            return Integer.bitCount(hitsOnly ? behind & hits[row] : behind);
        }

        /** BY HARD, by the numbers that hards() has for what. */
        int countHard(int thrower, int hard, int what) {
            int found = 0;
            for (int row = 0; row < rows; row++) {
                if (isOf(row, thrower)) {
                    int such = hardBits(row, hard);
                    if (what >= 2) {
                        such &= behindBits(hits[row], lengths[row], true, 1);
                    }
                    found += Integer.bitCount(what % 2 == 0 ? such & hits[row] : such);
                }
            }
            return found;
        }

        private int hardBits(int row, int hard) {
            int found = 0;
            for (int k = 0; k < lengths[row]; k++) {
                found |= ((hards[row] >>> (2 * k)) & 3) == hard ? 1 << k : 0;
            }
            return found;
        }
    }

    /**
     * The words of all texts, by numbers. They stand so that those which may come at one place follow one another:
     * rules HIT to STATE, what is asked HARD to HITS, kinds of TERMS HITS to FIRST, those with an OF from AFTER on.
     */
    private static final class Word {
        static final int HIT = 0;
        static final int HARDER = 1;
        static final int GUARDED = 2;
        static final int HARD = 3;
        static final int GUARD = 4;
        static final int STATE = 5;
        static final int RUN = 6;
        static final int MISS = 7;
        static final int PLACE = 8;
        static final int HITS = 9;
        static final int SHARE = 10;
        static final int RUNS = 11;
        static final int AFTER = 12;
        static final int LONGEST = 13;
        static final int PAIRS = 14;
        static final int FIRST = 15;
        static final int PASS = 16;
        static final int IF = 17;
        static final int AND = 18;
        static final int OR = 19;
        static final int NOT = 20;

        /** Each with a blank behind it, in the order of their numbers. */
        static final String ALL =
                "hit harder guarded hard guard state run miss place hits share runs after longest pairs first pass if and or not ";
    }

    /** What the words of a LAW or a BELIEF stand for ahead of a THROW. */
    private static final class Asked {
        int run = 0;
        int miss = 0;
        int state = 0;
        int place = 0;
        int hits = 0;
        int hard = 0;
        int guard = 0;

        void clear() {
            run = 0;
            miss = 0;
            state = 0;
            place = 0;
            hits = 0;
            hard = 0;
            guard = 0;
        }

        void copy(Asked from) {
            run = from.run;
            miss = from.miss;
            state = from.state;
            place = from.place;
            hits = from.hits;
            hard = from.hard;
            guard = from.guard;
        }

        void add(boolean hit) {
            run = hit ? run + 1 : 0;
            miss = hit ? 0 : miss + 1;
            hits += hit ? 1 : 0;
            place++;
        }

        /** Whether a comparison holds; it comes as the Reader writes it: word, sign and number in one. */
        boolean meets(int code) {
            int own = wordOf(code >> 14);
            int number = code & 127;
            switch ((code >> 7) & 127) {
                case '<': return own < number;
                case '>': return own > number;
                default: return own == number;
            }
        }

        private int wordOf(int word) {
            switch (word) {
                case Word.RUN: return run;
                case Word.MISS: return miss;
                case Word.STATE: return state;
                case Word.PLACE: return place;
                case Word.HARD: return hard;
                case Word.GUARD: return guard;
                default: return hits;
            }
        }
    }

    /** A LAW or a BELIEF; what must hold for a rule is kept with "not", "and", "or" behind what they join. */
    private static final class Rules {
        // Each code has a word of two letters or more on the tape.
        private static final int MOST_CODES = MOST_BYTES / 2;

        int count = 0;
        private int harder = 0;
        private int guarded = 0;
        private int written = 0;
        private final int[] kinds = new int[MOST_RULES];
        private final int[] numbers = new int[MOST_RULES];
        private final int[] ends = new int[MOST_RULES];
        private final int[] codes = new int[MOST_CODES];

        void clear() {
            count = 0;
            harder = 0;
            guarded = 0;
            written = 0;
        }

        /** Takes "not", "and", "or" by their numbers, and comparisons, which are all greater numbers. */
        void write(int code) {
            if (written < MOST_CODES) {
                codes[written] = code;
                written++;
            }
        }

        /** Adds a rule that asks for what was written since the last one. */
        void add(int kind, int number) {
            if (count >= MOST_RULES) {
                return;
            }
            kinds[count] = kind;
            numbers[count] = number;
            ends[count] = written;
            count++;
            if (kind == Word.HARDER) {
                harder = number;
            }
            if (kind == Word.GUARDED) {
                guarded = number;
            }
        }

        void aim(Asked asked) {
            asked.hard = 0;
            asked.guard = 0;
            asked.hard = firstOf(Word.HARD, asked, 0);
            asked.guard = firstOf(Word.GUARD, asked, 0);
        }

        int chanceOf(Asked asked) {
            int chance = firstOf(Word.HIT, asked, 50) - harder * asked.hard - guarded * asked.guard;
            return Math.max(0, Math.min(100, chance));
        }

        void goOn(Asked asked, boolean hit) {
            asked.add(hit);
            asked.state = firstOf(Word.STATE, asked, asked.state);
        }

        int betOn(Asked asked) {
            for (int i = 0; i < count; i++) {
                if (holds(i, asked)) {
                    return kinds[i];
                }
            }
            return Word.PASS;
        }

        private int firstOf(int kind, Asked asked, int otherwise) {
            for (int i = 0; i < count; i++) {
                if (kinds[i] == kind && holds(i, asked)) {
                    return numbers[i];
                }
            }
            return otherwise;
        }

        /** The answers not yet joined are bits, the latest the lowest: at most two wait at each level open. */
        private boolean holds(int rule, Asked asked) {
            long answers = 1;
            for (int at = rule == 0 ? 0 : ends[rule - 1]; at < ends[rule]; at++) {
                int code = codes[at];
                if (code == Word.NOT) {
                    answers ^= 1;
                } else if (code == Word.AND) {
                    answers = (answers >>> 1) & (answers | -2);
                } else if (code == Word.OR) {
                    answers = (answers >>> 1) | (answers & 1);
                } else {
                    answers = (answers << 1) | (asked.meets(code) ? 1 : 0);
                }
            }
            return (answers & 1) == 1;
        }
    }

    /** A MEASURE: TERMS, each with its TIMES, below 0 behind "-". */
    private static final class Measure {
        private int terms = 0;
        private final int[] times = new int[MOST_TERMS];
        private final int[] kinds = new int[MOST_TERMS];
        private final boolean[] ofs = new boolean[MOST_TERMS];
        private final boolean[] seconds = new boolean[MOST_TERMS];
        private final int[] aheads = new int[MOST_TERMS];

        void clear() {
            terms = 0;
        }

        void add(int kind, int signedTimes, boolean of, boolean second, int ahead) {
            if (terms < MOST_TERMS) {
                kinds[terms] = kind;
                times[terms] = signedTimes;
                ofs[terms] = of;
                seconds[terms] = second;
                aheads[terms] = ahead;
                terms++;
            }
        }

        /** The VALUE times a scale that each number up to the length divides. */
        long reckon(int bits, int length, long scale) {
            if (length <= 0) {
                return NO_VALUE;
            }
            long sum = 0;
            for (int term = 0; term < terms; term++) {
                long value = termOf(term, bits, length, scale);
                if (value == NO_VALUE) {
                    return NO_VALUE;
                }
                sum += times[term] * value;
            }
            return sum;
        }

        private long termOf(int term, int bits, int length, long scale) {
            int of = ofBits(bits, length, ofs[term]);
            switch (kinds[term]) {
                case Word.SHARE:
                    return length <= 0 ? NO_VALUE : scale / length * Integer.bitCount(bits);
                case Word.AFTER:
                    int behind = behindBits(bits, length, ofs[term], aheads[term]);
                    int all = Integer.bitCount(behind);
                    return all == 0 ? NO_VALUE : scale / all * Integer.bitCount(behind & bits);
                case Word.RUNS:
                    // The lowest bit tells of the first THROW, which begins a row whatever it is.
                    int changes = (bits ^ (bits << 1)) & ((1 << length) - 1);
                    return scale * Integer.bitCount(changes | 1);
                case Word.LONGEST:
                    return scale * longestOf(of);
                case Word.HITS:
                    return scale * Integer.bitCount(bits);
                case Word.PAIRS:
                    return scale * Integer.bitCount((of << 1) & ofBits(bits, length, seconds[term]));
                default:
                    return of == 0 ? 0 : scale * (Integer.bitCount((of & -of) - 1) + 1);
            }
        }
    }

    /** The tape, and its texts read token by token. */
    private static final class Reader {
        private static final int END = 0;
        private static final int WORD = 1;
        private static final int NUMBER = 2;
        private static final int SIGN = 3;

        int held = 0;
        private final byte[] tape = new byte[MOST_BYTES];
        private final int[] kinds = new int[MOST_BYTES + 1];
        private final int[] contents = new int[MOST_BYTES + 1];
        private final int[] places = new int[MOST_BYTES + 1];
        private int at = 0;

        void put(int number) {
            for (int shift = 24; shift >= 0; shift -= 8) {
                if (held < MOST_BYTES) {
                    tape[held] = (byte) (number >> shift);
                    held++;
                }
            }
        }

        /** Where the token begins that reading stopped at: the FAULT's place, if there is one. */
        int placeNow() {
            return places[at];
        }

        /** Reads a LAW or else a BELIEF; what stands in a 25th rule's place is its FAULT. */
        boolean readRules(int n, boolean isLaw, Rules into) {
            into.clear();
            open(n);
            for (int i = 0; i < MOST_RULES && kinds[at] != END; i++) {
                if (!(isLaw ? readRule(into) : readStatement(into))) {
                    return false;
                }
            }
            return kinds[at] == END;
        }

        boolean readMeasure(int n, Measure into) {
            into.clear();
            open(n);
            int sign = 1;
            for (int term = 1; term <= MOST_TERMS; term++) {
                if (!readTerm(into, sign)) {
                    return false;
                }
                if (kinds[at] == END) {
                    return true;
                }
                sign = isSign('+') ? 1 : isSign('-') ? -1 : 0;
                if (sign == 0 || term == MOST_TERMS) {
                    return false;
                }
                at++;
            }
            return false;
        }

        /** Parts the text into tokens; a byte that begins none becomes a sign that nothing asks for. */
        private void open(int n) {
            int tokens = 0;
            int from = 0;
            while (from < n && from < MOST_BYTES) {
                int to = from + 1;
                if (tape[from] != 32 && tape[from] != 10) {
                    int kind = kindOf(tape[from]);
                    while (kind != SIGN && to < n && to < MOST_BYTES && kindOf(tape[to]) == kind) {
                        to++;
                    }
                    kinds[tokens] = kind;
                    contents[tokens] = kind == WORD ? wordIn(from, to)
                            : kind == NUMBER ? numberIn(from, to) : tape[from];
                    places[tokens] = from;
                    tokens++;
                }
                from = to;
            }
            kinds[tokens] = END;
            contents[tokens] = NONE;
            places[tokens] = n;
            at = 0;
        }

        private static int kindOf(byte letter) {
            if (letter >= 'a' && letter <= 'z') {
                return WORD;
            }
            return letter >= '0' && letter <= '9' ? NUMBER : SIGN;
        }

        private int wordIn(int from, int to) {
            int word = 0;
            int place = from;
            boolean same = true;
            for (int i = 0; i < Word.ALL.length(); i++) {
                char letter = Word.ALL.charAt(i);
                if (letter != ' ') {
                    same = same && place < to && tape[place] == letter;
                    place++;
                } else if (same && place == to) {
                    return word;
                } else {
                    word++;
                    place = from;
                    same = true;
                }
            }
            return NONE;
        }

        private int numberIn(int from, int to) {
            if (to - from > 3) {
                return NONE;
            }
            int number = 0;
            for (int i = from; i < to; i++) {
                number = number * 10 + tape[i] - '0';
            }
            return number;
        }

        private boolean isWord(int word) {
            return kinds[at] == WORD && contents[at] == word;
        }

        private boolean isWordOf(int first, int last) {
            return kinds[at] == WORD && contents[at] >= first && contents[at] <= last;
        }

        private boolean isNumber(int least, int most) {
            return kinds[at] == NUMBER && contents[at] >= least && contents[at] <= most;
        }

        private boolean isSign(char sign) {
            return kinds[at] == SIGN && contents[at] == sign;
        }

        /** Steps over a token that was asked for, never over the END. */
        private int take() {
            at++;
            return contents[at - 1];
        }

        private boolean readRule(Rules into) {
            if (!isWordOf(Word.HIT, Word.STATE)) {
                return false;
            }
            int rule = take();
            if (!isNumber(0, mostOf(rule))) {
                return false;
            }
            int number = take();
            if (!readIf(into, rule != Word.HARDER && rule != Word.GUARDED)) {
                return false;
            }
            into.add(rule, number);
            return true;
        }

        private static int mostOf(int rule) {
            switch (rule) {
                case Word.HIT: return 100;
                case Word.HARD: return 3;
                case Word.GUARD: return MOST_GUARDS;
                case Word.STATE: return 9;
                default: return 99;
            }
        }

        private boolean readStatement(Rules into) {
            if (!isWord(Word.HIT) && !isWord(Word.MISS) && !isWord(Word.PASS)) {
                return false;
            }
            int bet = take();
            if (!readIf(into, true)) {
                return false;
            }
            into.add(bet, 0);
            return true;
        }

        /** Reads on to behind the ";" that ends a rule, with an "if" ahead of it where there may be one. */
        private boolean readIf(Rules into, boolean may) {
            if (may && isWord(Word.IF)) {
                take();
                if (!readAny(into, 0)) {
                    return false;
                }
            }
            if (!isSign(';')) {
                return false;
            }
            take();
            return true;
        }

        private boolean readAny(Rules into, int open) {
            for (int alls = 0; alls < MOST_BYTES; alls++) {
                if (!readOne(into, open)) {
                    return false;
                }
                for (int ones = 1; ones < MOST_BYTES && isWord(Word.AND); ones++) {
                    take();
                    if (!readOne(into, open)) {
                        return false;
                    }
                    into.write(Word.AND);
                }
                if (alls > 0) {
                    into.write(Word.OR);
                }
                if (!isWord(Word.OR)) {
                    return true;
                }
                take();
            }
            return false;
        }

        private boolean readOne(Rules into, int open) {
            boolean not = isWord(Word.NOT);
            if (!not && !isSign('(')) {
                return readComparison(into);
            }
            if (open >= MOST_OPEN) {
                return false;
            }
            take();
            if (not) {
                if (!readOne(into, open + 1)) {
                    return false;
                }
                into.write(Word.NOT);
                return true;
            }
            if (!readAny(into, open + 1) || !isSign(')')) {
                return false;
            }
            take();
            return true;
        }

        private boolean readComparison(Rules into) {
            if (!isWordOf(Word.HARD, Word.HITS)) {
                return false;
            }
            int word = take();
            if (!isSign('<') && !isSign('>') && !isSign('=')) {
                return false;
            }
            int sign = take();
            if (!isNumber(0, 99)) {
                return false;
            }
            into.write((word << 14) | (sign << 7) | take());
            return true;
        }

        private boolean readTerm(Measure into, int sign) {
            int times = 1;
            if (kinds[at] == NUMBER) {
                if (!isNumber(1, 3)) {
                    return false;
                }
                times = take();
            }
            if (!isWordOf(Word.HITS, Word.FIRST)) {
                return false;
            }
            int kind = take();
            boolean of = isWord(Word.HIT);
            if (kind >= Word.AFTER && !takeOf()) {
                return false;
            }
            boolean second = isWord(Word.HIT);
            if (kind == Word.PAIRS && !takeOf()) {
                return false;
            }
            int ahead = 0;
            if (kind == Word.AFTER) {
                if (!isNumber(1, MOST_BEHIND)) {
                    return false;
                }
                ahead = take();
            }
            into.add(kind, sign * times, of, second, ahead);
            return true;
        }

        private boolean takeOf() {
            if (!isWord(Word.HIT) && !isWord(Word.MISS)) {
                return false;
            }
            take();
            return true;
        }
    }

    /** A LEAN: upper by SHORT_SCALE times weight; a weight of 0 if no row has a VALUE. */
    private static final class Leaning {
        long upper = 0;
        long weight = 0;
        private final long[] likely = new long[MOST_LEANED + 1];

        void reckon(Measure measure, int n, int p) {
            likely[0] = 1;
            for (int i = 0; i < n; i++) {
                likely[0] *= 10 - p;
            }
            for (int hits = 1; hits <= n; hits++) {
                likely[hits] = likely[hits - 1] / Math.max(1, 10 - p) * p;
            }
            upper = 0;
            weight = 0;
            for (int bits = 0; bits < 1 << n; bits++) {
                long value = measure.reckon(bits, n, SHORT_SCALE);
                if (value != NO_VALUE) {
                    long such = likely[Integer.bitCount(bits)];
                    upper += value * such;
                    weight += such;
                }
            }
        }
    }

    /** All ROWS of a THROWER, each SHUFFLED for itself. */
    private static final class Shuffles {
        long all = 1;
        int pairs = 0;
        private final long[] ways = new long[MOST_ROWS * (MOST_THROWS - 1) + 1];
        private final long[] own = new long[MOST_THROWS];
        private int most = 0;

        /** Finds all ways and the pairs that there are; false: the ways are too many to be told. */
        boolean reckon(Court court, int thrower) {
            all = 1;
            pairs = 0;
            for (int row = 0; row < court.rows; row++) {
                if (court.isOf(row, thrower)) {
                    int bits = court.hits[row];
                    long orders = choose(court.lengths[row], Integer.bitCount(bits));
                    if (all <= 0 || orders > MOST_WAYS / all) {
                        return false;
                    }
                    all *= orders;
                    pairs += Integer.bitCount(bits & (bits >> 1));
                }
            }
            return true;
        }

        /** Only behind a reckon() that found all ways: nothing is beyond a long then. */
        long atLeast(Court court, int thrower) {
            Arrays.fill(ways, 0);
            ways[0] = 1;
            most = 0;
            for (int row = 0; row < court.rows; row++) {
                if (court.isOf(row, thrower)) {
                    join(court.lengths[row], Integer.bitCount(court.hits[row]));
                }
            }
            long found = 0;
            for (int i = pairs; i <= most; i++) {
                found += ways[i];
            }
            return found;
        }

        private void join(int length, int hits) {
            int least = Math.max(0, hits - (length - hits + 1));
            int high = Math.max(0, hits - 1);
            for (int i = least; i <= high; i++) {
                own[i] = ordersOfRow(length, hits, i);
            }
            most += high;
            // From the top down, so that what is still needed hasn't been written over.
            for (int at = most; at >= 0; at--) {
                long sum = 0;
                for (int i = least; i <= high && i <= at; i++) {
                    sum += ways[at - i] * own[i];
                }
                ways[at] = sum;
            }
        }

        /** HITS in so many rows one behind the other, put into the gaps between the misses. */
        private static long ordersOfRow(int length, int hits, int pairs) {
            int runs = hits - pairs;
            return hits == 0 ? 1 : choose(hits - 1, runs - 1) * choose(length - hits + 1, runs);
        }
    }

    /** A TRIAL's chances by pairs of HITS, in tenths multiplied, parted by what the last THROW was. */
    private static final class Trial {
        private final long[] hot = new long[MOST_TRIED + 1];
        private final long[] cold = new long[MOST_TRIED + 1];

        /** The least number of pairs that is rare enough for nothing. */
        int lineAt(int n, int p, int w) {
            lay(n, p, 0);
            int line = n;
            long chance = 0;
            for (int pairs = n - 1; pairs >= 0; pairs--) {
                chance += hot[pairs] + cold[pairs];
                if (chance * 100 <= w * TENS[n]) {
                    line = pairs;
                }
            }
            return line;
        }

        long atLeast(int n, int p, int e, int pairs) {
            lay(n, p, e);
            long chance = 0;
            for (int i = pairs; i < n; i++) {
                chance += hot[i] + cold[i];
            }
            return chance;
        }

        boolean isSeen(int n, int p, int e, int w, int v) {
            return atLeast(n, p, e, lineAt(n, p, w)) * 100 >= v * TENS[n];
        }

        private void lay(int n, int p, int e) {
            int up = Math.min(10, p + e);
            int down = Math.max(0, p - e);
            Arrays.fill(hot, 0);
            Arrays.fill(cold, 0);
            hot[0] = p;
            cold[0] = 10 - p;
            for (int i = 1; i < n; i++) {
                for (int pairs = i; pairs >= 0; pairs--) {
                    long hit = hot[pairs];
                    hot[pairs] = cold[pairs] * down + (pairs > 0 ? hot[pairs - 1] * up : 0);
                    cold[pairs] = cold[pairs] * (10 - down) + hit * (10 - up);
                }
            }
        }
    }

    /** A GAME, with what both THROWERS are asked ahead of each of its throws. */
    private static final class Game {
        int length = 0;
        private Rules oneLaw = new Rules();
        private Rules otherLaw = new Rules();
        private int givenAt = 0;
        private int more = 0;
        private final Asked[] ones = new Asked[MOST_GAME + 1];
        private final Asked[] others = new Asked[MOST_GAME + 1];
        private final boolean[] isOnes = new boolean[MOST_GAME];

        Game() {
            for (int i = 0; i <= MOST_GAME; i++) {
                ones[i] = new Asked();
                others[i] = new Asked();
            }
        }

        void begin(Rules one, Rules other, int n) {
            oneLaw = one;
            otherLaw = other;
            length = n;
            // No run is as long: the plain game.
            givenAt = MOST_GAME + 1;
            more = 0;
            ones[0].clear();
            others[0].clear();
        }

        void giveAt(int run, int guards) {
            givenAt = run;
            more = guards;
        }

        /** Settles whose throw it is and how it's thrown: its CHANCE. */
        int aimAt(int at) {
            boolean given = ones[at].run >= givenAt;
            isOnes[at] = given || at % 2 == 0;
            Asked asked = isOnes[at] ? ones[at] : others[at];
            Rules law = isOnes[at] ? oneLaw : otherLaw;
            law.aim(asked);
            if (given) {
                asked.guard = Math.min(MOST_GUARDS, asked.guard + more);
            }
            return law.chanceOf(asked);
        }

        void follow(int at, boolean hit) {
            ones[at + 1].copy(ones[at]);
            others[at + 1].copy(others[at]);
            if (isOnes[at]) {
                oneLaw.goOn(ones[at + 1], hit);
            } else {
                otherLaw.goOn(others[at + 1], hit);
            }
        }
    }
}
