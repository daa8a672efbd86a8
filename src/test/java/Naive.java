import java.math.BigInteger;
import java.util.ArrayList;
import java.util.Collections;
import java.util.List;

/** The document once more, as slow and as plain as can be, to compare answers with. It shares no code with HotHand. */
final class Naive {
    private static final int NONE = -1;
    private static final long NO = -1_000_000_000_000L;
    private static final BigInteger HUNDRED = BigInteger.valueOf(100);
    private static final BigInteger WRAP = BigInteger.ONE.shiftLeft(64);

    record Throw(boolean hit, int hard, int guard) {
    }

    record Row(int thrower, List<Throw> list) {
    }

    record Token(String text, int place) {
    }

    record Rule(String kind, int number, List<String> asks) {
    }

    record Term(int times, String kind, List<String> rest) {
    }

    record Image(int throwers, List<Row> rows, BigInteger z) {
    }

    record Frac(BigInteger up, BigInteger low) {
        static Frac of(long up, long low) {
            return new Frac(BigInteger.valueOf(up), BigInteger.valueOf(low)).least();
        }

        Frac least() {
            BigInteger common = up.gcd(low);
            BigInteger sign = BigInteger.valueOf(low.signum());
            return new Frac(up.divide(common).multiply(sign), low.divide(common).multiply(sign));
        }

        Frac plus(Frac o) {
            return new Frac(up.multiply(o.low).add(o.up.multiply(low)), low.multiply(o.low)).least();
        }

        Frac times(Frac o) {
            return new Frac(up.multiply(o.up), low.multiply(o.low)).least();
        }

        Frac by(Frac o) {
            return new Frac(up.multiply(o.low), low.multiply(o.up)).least();
        }

        Frac minus(Frac o) {
            return plus(new Frac(o.up.negate(), o.low));
        }

        int compare(Frac o) {
            return up.multiply(o.low).compareTo(o.up.multiply(low));
        }

        long part(int what) {
            return (what == 0 ? up : low).longValueExact();
        }
    }

    private static final Frac ZERO = Frac.of(0, 1);

    private final List<Integer> tape = new ArrayList<>();
    private int throwers = 0;
    private List<Row> rows = new ArrayList<>();
    private BigInteger z = BigInteger.ONE;
    private final List<List<Rule>> laws = new ArrayList<>();
    private final List<List<Rule>> beliefs = new ArrayList<>();
    private final List<List<Term>> measures = new ArrayList<>();
    private final List<Image> images = new ArrayList<>();
    private int faultPlace = NONE;

    Naive() {
        for (int i = 0; i < 12; i++) {
            laws.add(new ArrayList<>());
        }
        for (int i = 0; i < 4; i++) {
            beliefs.add(new ArrayList<>());
        }
    }

    // ---- texts: a state for what may come, and a list of what is open ----

    private static List<Token> tokens(List<Integer> bytes) {
        List<Token> list = new ArrayList<>();
        int i = 0;
        while (i < bytes.size()) {
            int from = i;
            StringBuilder b = new StringBuilder();
            while (i < bytes.size() && Character.toString(bytes.get(i)).matches("[a-z]")) {
                b.append((char) bytes.get(i++).intValue());
            }
            while (b.length() == i - from && from == i && i < bytes.size()
                    && Character.toString(bytes.get(i)).matches("[0-9]")) {
                b.append((char) bytes.get(i++).intValue());
                while (i < bytes.size() && Character.toString(bytes.get(i)).matches("[0-9]")) {
                    b.append((char) bytes.get(i++).intValue());
                }
            }
            if (i == from) {
                b.append((char) bytes.get(i++).intValue());
            }
            if (bytes.get(from) != 32 && bytes.get(from) != 10) {
                list.add(new Token(b.toString(), from));
            }
        }
        return list;
    }

    private static boolean isNumber(String t, int least, int most) {
        return t.matches("[0-9]{1,3}") && Integer.parseInt(t) >= least && Integer.parseInt(t) <= most;
    }

    /** The rules, or null with faultPlace told. */
    private List<Rule> rules(List<Integer> bytes, boolean law) {
        List<Rule> list = new ArrayList<>();
        List<String> open = new ArrayList<>();
        List<String> asks = new ArrayList<>();
        String state = "rule";
        String kind = "";
        int number = 0;
        for (Token token : tokens(bytes)) {
            String t = token.text();
            boolean good = false;
            switch (state) {
                case "rule":
                    good = list.size() < 24 && t.matches(law ? "hit|hard|guard|state|harder|guarded" : "hit|miss|pass");
                    kind = t;
                    state = law ? "number" : "if";
                    asks = new ArrayList<>();
                    break;
                case "number":
                    int most = kind.equals("hit") ? 100 : kind.equals("hard") || kind.equals("guard") ? 3
                            : kind.equals("state") ? 9 : 99;
                    good = isNumber(t, 0, most);
                    number = good ? Integer.parseInt(t) : 0;
                    state = kind.matches("harder|guarded") ? ";" : "if";
                    break;
                case "if":
                    good = t.matches("if|;");
                    state = t.equals("if") ? "one" : "end";
                    break;
                case ";":
                    good = t.equals(";");
                    state = "end";
                    break;
                case "one":
                    if (t.matches("not|\\(")) {
                        good = open.size() < 8;
                        open.add(t);
                    } else {
                        good = t.matches("run|miss|state|place|hard|guard|hits");
                        state = "sign";
                    }
                    asks.add(t);
                    break;
                case "sign":
                    good = t.matches("[<>=]");
                    asks.add(t);
                    state = "than";
                    break;
                case "than":
                    good = isNumber(t, 0, 99);
                    asks.add(t);
                    state = "behind";
                    while (!open.isEmpty() && open.get(open.size() - 1).equals("not")) {
                        open.remove(open.size() - 1);
                    }
                    break;
                default:
                    if (t.equals(")")) {
                        good = !open.isEmpty();
                        if (good) {
                            open.remove(open.size() - 1);
                        }
                        while (!open.isEmpty() && open.get(open.size() - 1).equals("not")) {
                            open.remove(open.size() - 1);
                        }
                        asks.add(t);
                    } else if (t.equals(";")) {
                        good = open.isEmpty();
                        state = "end";
                    } else {
                        good = t.matches("and|or");
                        asks.add(t);
                        state = "one";
                    }
            }
            if (!good) {
                faultPlace = token.place();
                return null;
            }
            if (state.equals("end")) {
                list.add(new Rule(kind, number, asks));
                state = "rule";
            }
        }
        if (!state.equals("rule")) {
            faultPlace = bytes.size();
            return null;
        }
        faultPlace = NONE;
        return list;
    }

    private List<Term> terms(List<Integer> bytes) {
        List<Term> list = new ArrayList<>();
        List<String> wanted = new ArrayList<>(List.of("term"));
        int times = 1;
        int sign = 1;
        String kind = "";
        List<String> rest = new ArrayList<>();
        for (Token token : tokens(bytes)) {
            String t = token.text();
            String want = wanted.remove(0);
            boolean good;
            if (want.equals("join")) {
                good = t.matches("[-+]") && list.size() < 4;
                sign = t.equals("-") ? -1 : 1;
                wanted.add("term");
            } else if (want.equals("term") && isNumber(t, 1, 3)) {
                good = true;
                times = Integer.parseInt(t);
                wanted.add("kind");
            } else if (want.equals("term") || want.equals("kind")) {
                good = t.matches("share|after|runs|longest|hits|pairs|first");
                kind = t;
                rest = new ArrayList<>();
                if (t.matches("after|longest|pairs|first")) {
                    wanted.add("of");
                }
                if (t.equals("pairs")) {
                    wanted.add("of");
                }
                if (t.equals("after")) {
                    wanted.add("n");
                }
            } else {
                good = want.equals("of") ? t.matches("hit|miss") : isNumber(t, 1, 5);
                rest.add(t);
            }
            if (!good) {
                faultPlace = token.place();
                return null;
            }
            if (wanted.isEmpty()) {
                list.add(new Term(sign * times, kind, rest));
                times = 1;
                wanted.add("join");
            }
        }
        if (!wanted.get(0).equals("join")) {
            faultPlace = bytes.size();
            return null;
        }
        faultPlace = NONE;
        return list;
    }

    int feed(int a, int b, int c, int d, int e) {
        if (tape.size() + 20 > 600) {
            return NONE;
        }
        for (int number : new int[] {a, b, c, d, e}) {
            for (int i = 3; i >= 0; i--) {
                tape.add((int) ((number & 0xffffffffL) / (1L << (8 * i)) % 256));
            }
        }
        return tape.size();
    }

    private List<Integer> cut(int n) {
        List<Integer> text = new ArrayList<>(tape.subList(0, n));
        tape.clear();
        return text;
    }

    int law(int thrower, int n) {
        if (n < 0 || n > tape.size() || thrower < 0 || thrower >= throwers) {
            return -2;
        }
        List<Rule> read = rules(cut(n), true);
        if (read == null) {
            return NONE;
        }
        laws.set(thrower, read);
        return read.size();
    }

    int belief(int watcher, int n) {
        if (n < 0 || n > tape.size() || watcher < 0 || watcher > 3) {
            return -2;
        }
        List<Rule> read = rules(cut(n), false);
        if (read == null) {
            return NONE;
        }
        beliefs.set(watcher, read);
        return read.size();
    }

    int measure(int n) {
        if (n < 0 || n > tape.size()) {
            return -2;
        }
        if (measures.size() == 12) {
            return -3;
        }
        List<Term> read = terms(cut(n));
        if (read == null) {
            return NONE;
        }
        measures.add(read);
        return measures.size() - 1;
    }

    int fault() {
        return faultPlace;
    }

    // ---- what is asked ----

    /** The words' meaning, from the THROWS ahead alone. */
    private static int word(String word, List<Throw> ahead, int state, int hard, int guard) {
        int k = ahead.size();
        int count = 0;
        switch (word) {
            case "run":
                while (count < k && ahead.get(k - 1 - count).hit()) {
                    count++;
                }
                return count;
            case "miss":
                while (count < k && !ahead.get(k - 1 - count).hit()) {
                    count++;
                }
                return count;
            case "hits":
                for (Throw t : ahead) {
                    count += t.hit() ? 1 : 0;
                }
                return count;
            case "place": return k;
            case "state": return state;
            case "hard": return hard;
            default: return guard;
        }
    }

    /** Splits at the last word given that stands outside all brackets. */
    private static int outside(List<String> asks, String sought) {
        int depth = 0;
        for (int i = asks.size() - 1; i >= 0; i--) {
            depth += asks.get(i).equals(")") ? 1 : asks.get(i).equals("(") ? -1 : 0;
            if (depth == 0 && asks.get(i).equals(sought)) {
                return i;
            }
        }
        return NONE;
    }

    private static boolean holds(List<String> asks, List<Throw> ahead, int state, int hard, int guard) {
        if (asks.isEmpty()) {
            return true;
        }
        int at = outside(asks, "or");
        if (at >= 0) {
            return holds(asks.subList(0, at), ahead, state, hard, guard)
                    || holds(asks.subList(at + 1, asks.size()), ahead, state, hard, guard);
        }
        at = outside(asks, "and");
        if (at >= 0) {
            return holds(asks.subList(0, at), ahead, state, hard, guard)
                    && holds(asks.subList(at + 1, asks.size()), ahead, state, hard, guard);
        }
        if (asks.get(0).equals("not")) {
            return !holds(asks.subList(1, asks.size()), ahead, state, hard, guard);
        }
        if (asks.get(0).equals("(")) {
            return holds(asks.subList(1, asks.size() - 1), ahead, state, hard, guard);
        }
        int left = word(asks.get(0), ahead, state, hard, guard);
        int than = Integer.parseInt(asks.get(2));
        return asks.get(1).equals("<") ? left < than : asks.get(1).equals(">") ? left > than : left == than;
    }

    private static int first(List<Rule> law, String kind, List<Throw> ahead, int[] shg, int otherwise) {
        for (Rule r : law) {
            if (r.kind().equals(kind) && holds(r.asks(), ahead, shg[0], shg[1], shg[2])) {
                return r.number();
            }
        }
        return otherwise;
    }

    private static int last(List<Rule> law, String kind) {
        int number = 0;
        for (Rule r : law) {
            number = r.kind().equals(kind) ? r.number() : number;
        }
        return number;
    }

    /** STATE behind all these THROWS. */
    private static int state(List<Rule> law, List<Throw> ahead) {
        int state = 0;
        for (int k = 1; k <= ahead.size(); k++) {
            Throw was = ahead.get(k - 1);
            state = first(law, "state", ahead.subList(0, k), new int[] {state, was.hard(), was.guard()}, state);
        }
        return state;
    }

    private static int hard(List<Rule> law, List<Throw> ahead) {
        return first(law, "hard", ahead, new int[] {state(law, ahead), 0, 0}, 0);
    }

    private static int guard(List<Rule> law, List<Throw> ahead) {
        return first(law, "guard", ahead, new int[] {state(law, ahead), hard(law, ahead), 0}, 0);
    }

    private static int chance(List<Rule> law, List<Throw> ahead, int hard, int guard) {
        int chance = first(law, "hit", ahead, new int[] {state(law, ahead), hard, guard}, 50)
                - last(law, "harder") * hard - last(law, "guarded") * guard;
        return chance < 0 ? 0 : chance > 100 ? 100 : chance;
    }

    private static int chanceAt(List<Rule> law, List<Throw> list, int k) {
        return chance(law, list.subList(0, k), list.get(k).hard(), list.get(k).guard());
    }

    // ---- throwers, rows, throws ----

    int thrower() {
        return throwers == 12 ? NONE : throwers++;
    }

    boolean seed(int v) {
        if (v < 0 || v > 999_999_999) {
            return false;
        }
        z = BigInteger.valueOf(v);
        return true;
    }

    int row(int thrower) {
        if (thrower < 0 || thrower >= throwers || rows.size() == 60) {
            return NONE;
        }
        rows.add(new Row(thrower, new ArrayList<>()));
        return rows.size() - 1;
    }

    private boolean noRow(int row) {
        return row < 0 || row >= rows.size();
    }

    private boolean noThrower(int thrower) {
        return thrower < 0 || thrower >= throwers;
    }

    private boolean noMeasure(int measure) {
        return measure < 0 || measure >= measures.size();
    }

    int thrown(int row, boolean hit, int hard, int guard) {
        if (noRow(row) || hard < 0 || hard > 3 || guard < 0 || guard > 3 || rows.get(row).list().size() == 24) {
            return NONE;
        }
        rows.get(row).list().add(new Throw(hit, hard, guard));
        return rows.get(row).list().size();
    }

    private boolean dealOne(List<Rule> law, List<Throw> list) {
        int hard = hard(law, list);
        int guard = guard(law, list);
        z = z.multiply(new BigInteger("6364136223846793005")).add(new BigInteger("1442695040888963407")).mod(WRAP);
        boolean hit = z.shiftRight(33).mod(HUNDRED).intValue() < chance(law, list, hard, guard);
        list.add(new Throw(hit, hard, guard));
        return hit;
    }

    int deal(int row, int n) {
        if (noRow(row) || n < 1 || n > 24 || rows.get(row).list().size() + n > 24) {
            return NONE;
        }
        int hits = 0;
        for (int i = 0; i < n; i++) {
            hits += dealOne(laws.get(rows.get(row).thrower()), rows.get(row).list()) ? 1 : 0;
        }
        return hits;
    }

    private static int hits(List<Throw> list) {
        return word("hits", list, 0, 0, 0);
    }

    int told(int row, int k, int what) {
        if (noRow(row)) {
            return NONE;
        }
        Row r = rows.get(row);
        if (k == NONE) {
            return what == 0 ? r.thrower() : what == 1 ? r.list().size() : what == 2 ? hits(r.list()) : NONE;
        }
        if (k < 0 || k >= r.list().size()) {
            return NONE;
        }
        List<Throw> ahead = r.list().subList(0, k);
        List<Rule> law = laws.get(r.thrower());
        switch (what) {
            case 0: return r.list().get(k).hit() ? 1 : 0;
            case 1: return r.list().get(k).hard();
            case 2: return r.list().get(k).guard();
            case 3: return state(law, ahead);
            case 4: return chanceAt(law, r.list(), k);
            case 5: return word("run", ahead, 0, 0, 0);
            case 6: return word("miss", ahead, 0, 0, 0);
            case 7: return hits(ahead);
            default: return NONE;
        }
    }

    int next(int row, int what) {
        if (noRow(row)) {
            return NONE;
        }
        List<Throw> list = rows.get(row).list();
        List<Rule> law = laws.get(rows.get(row).thrower());
        int hard = hard(law, list);
        int guard = guard(law, list);
        return what == 0 ? hard : what == 1 ? guard : what == 2 ? chance(law, list, hard, guard)
                : what == 3 ? state(law, list) : NONE;
    }

    // ---- measures ----

    private static boolean[] outcomes(List<Throw> list) {
        boolean[] b = new boolean[list.size()];
        for (int i = 0; i < b.length; i++) {
            b[i] = list.get(i).hit();
        }
        return b;
    }

    private static boolean[] outcomes(int bits, int n) {
        boolean[] b = new boolean[n];
        for (int i = 0; i < n; i++) {
            b[i] = (bits & (1 << i)) != 0;
        }
        return b;
    }

    /** HITS, all: of THROWS with n of OF just ahead. */
    private static int[] behind(boolean[] row, boolean of, int n) {
        int[] found = new int[2];
        for (int i = n; i < row.length; i++) {
            boolean all = true;
            for (int k = i - n; k < i; k++) {
                all &= row[k] == of;
            }
            found[1] += all ? 1 : 0;
            found[0] += all && row[i] ? 1 : 0;
        }
        return found;
    }

    private static Frac term(Term t, boolean[] row) {
        boolean of = !t.rest().isEmpty() && t.rest().get(0).equals("hit");
        int count = 0;
        switch (t.kind()) {
            case "share":
                for (boolean b : row) {
                    count += b ? 1 : 0;
                }
                return Frac.of(count, row.length);
            case "after":
                int[] found = behind(row, of, Integer.parseInt(t.rest().get(1)));
                return found[1] == 0 ? null : Frac.of(found[0], found[1]);
            case "runs":
                for (int i = 0; i < row.length; i++) {
                    count += i == 0 || row[i] != row[i - 1] ? 1 : 0;
                }
                return Frac.of(count, 1);
            case "longest":
                int now = 0;
                for (boolean b : row) {
                    now = b == of ? now + 1 : 0;
                    count = Math.max(count, now);
                }
                return Frac.of(count, 1);
            case "hits":
                for (boolean b : row) {
                    count += b ? 1 : 0;
                }
                return Frac.of(count, 1);
            case "pairs":
                boolean second = t.rest().get(1).equals("hit");
                for (int i = 1; i < row.length; i++) {
                    count += row[i - 1] == of && row[i] == second ? 1 : 0;
                }
                return Frac.of(count, 1);
            default:
                for (int i = row.length - 1; i >= 0; i--) {
                    count = row[i] == of ? i + 1 : count;
                }
                return Frac.of(count, 1);
        }
    }

    private static Frac value(List<Term> measure, boolean[] row) {
        if (row.length == 0) {
            return null;
        }
        Frac sum = ZERO;
        for (Term t : measure) {
            Frac one = term(t, row);
            if (one == null) {
                return null;
            }
            sum = sum.plus(one.times(Frac.of(t.times(), 1)));
        }
        return sum;
    }

    private Frac valueOf(int row, int measure) {
        return value(measures.get(measure), outcomes(rows.get(row).list()));
    }

    private static long part(Frac f, int what) {
        return f == null ? NO : f.part(what);
    }

    private static boolean not01(int what) {
        return what != 0 && what != 1;
    }

    long value(int row, int measure, int what) {
        return noRow(row) || noMeasure(measure) || not01(what) ? NO : part(valueOf(row, measure), what);
    }

    private static Frac mean(List<Frac> list) {
        Frac sum = ZERO;
        for (Frac f : list) {
            sum = sum.plus(f);
        }
        return list.isEmpty() ? null : sum.by(Frac.of(list.size(), 1));
    }

    long mean(int thrower, int measure, int what) {
        if (thrower != NONE && noThrower(thrower) || noMeasure(measure) || not01(what)) {
            return NO;
        }
        List<Frac> list = new ArrayList<>();
        for (int row = 0; row < rows.size(); row++) {
            if ((thrower == NONE || rows.get(row).thrower() == thrower) && valueOf(row, measure) != null) {
                list.add(valueOf(row, measure));
            }
        }
        return part(mean(list), what);
    }

    private int[] joinedOf(List<Row> some, boolean hit, int n) {
        int[] sum = new int[2];
        for (Row r : some) {
            int[] one = behind(outcomes(r.list()), hit, n);
            sum[0] += one[0];
            sum[1] += one[1];
        }
        return sum;
    }

    private List<Row> rowsOf(int thrower) {
        List<Row> some = new ArrayList<>();
        for (Row r : rows) {
            if (r.thrower() == thrower) {
                some.add(r);
            }
        }
        return some;
    }

    int joined(int thrower, boolean hit, int n, int what) {
        return noThrower(thrower) || n < 1 || n > 5 || not01(what) ? NONE : joinedOf(rowsOf(thrower), hit, n)[what];
    }

    private Frac leanOf(int measure, int n, int p) {
        Frac sum = ZERO;
        Frac weights = ZERO;
        for (int bits = 0; bits < 1 << n; bits++) {
            Frac v = value(measures.get(measure), outcomes(bits, n));
            if (v != null) {
                Frac weight = Frac.of(1, 1);
                for (boolean b : outcomes(bits, n)) {
                    weight = weight.times(Frac.of(b ? p : 10 - p, 10));
                }
                sum = sum.plus(v.times(weight));
                weights = weights.plus(weight);
            }
        }
        return weights.up().signum() == 0 ? null : sum.by(weights);
    }

    long lean(int measure, int n, int p, int what) {
        return noMeasure(measure) || n < 1 || n > 12 || p < 1 || p > 9 || not01(what) ? NO
                : part(leanOf(measure, n, p), what);
    }

    long right(int row, int measure, int p, int what) {
        if (noRow(row) || noMeasure(measure) || p < 1 || p > 9 || not01(what)) {
            return NO;
        }
        int n = rows.get(row).list().size();
        if (n < 1 || n > 12 || valueOf(row, measure) == null) {
            return NO;
        }
        return part(valueOf(row, measure).minus(leanOf(measure, n, p)), what);
    }

    long shuffle(int row, int measure, int what) {
        if (noRow(row) || noMeasure(measure) || not01(what) || rows.get(row).list().size() > 16
                || valueOf(row, measure) == null) {
            return NONE;
        }
        int n = rows.get(row).list().size();
        Frac own = valueOf(row, measure);
        long[] found = new long[2];
        for (int bits = 0; bits < 1 << n; bits++) {
            if (Integer.bitCount(bits) == hits(rows.get(row).list())) {
                Frac v = value(measures.get(measure), outcomes(bits, n));
                found[1] += v == null ? 0 : 1;
                found[0] += v == null || v.compare(own) < 0 ? 0 : 1;
            }
        }
        return found[what];
    }

    /** Orders of a row by its pairs of HITS: THROW by THROW, with the HITS so far and what the last one was. */
    private static List<BigInteger> orders(int n, int hits) {
        BigInteger[][][] ways = new BigInteger[2][hits + 2][26];
        for (BigInteger[][] a : ways) {
            for (BigInteger[] b : a) {
                java.util.Arrays.fill(b, BigInteger.ZERO);
            }
        }
        ways[0][0][0] = BigInteger.ONE;
        for (int i = 0; i < n; i++) {
            BigInteger[][][] then = new BigInteger[2][hits + 2][26];
            for (int h = 0; h <= hits; h++) {
                for (int p = 0; p < 25; p++) {
                    then[0][h][p] = ways[0][h][p].add(ways[1][h][p]);
                    then[1][h][p] = h == 0 ? BigInteger.ZERO
                            : ways[0][h - 1][p].add(p == 0 ? BigInteger.ZERO : ways[1][h - 1][p - 1]);
                }
                then[0][h][25] = BigInteger.ZERO;
                then[1][h][25] = BigInteger.ZERO;
            }
            ways = then;
        }
        List<BigInteger> list = new ArrayList<>();
        for (int p = 0; p < 25; p++) {
            list.add(ways[0][hits][p].add(ways[1][hits][p]));
        }
        return list;
    }

    /** At least, all, pairs. */
    private BigInteger[] togetherOf(int thrower) {
        List<BigInteger> ways = new ArrayList<>(List.of(BigInteger.ONE));
        int pairs = 0;
        for (Row r : rowsOf(thrower)) {
            List<BigInteger> own = orders(r.list().size(), hits(r.list()));
            List<BigInteger> then = new ArrayList<>(Collections.nCopies(ways.size() + own.size(), BigInteger.ZERO));
            for (int i = 0; i < ways.size(); i++) {
                for (int k = 0; k < own.size(); k++) {
                    then.set(i + k, then.get(i + k).add(ways.get(i).multiply(own.get(k))));
                }
            }
            ways = then;
            pairs += term(new Term(1, "pairs", List.of("hit", "hit")), outcomes(r.list())).part(0);
        }
        BigInteger all = BigInteger.ZERO;
        BigInteger least = BigInteger.ZERO;
        for (int i = 0; i < ways.size(); i++) {
            all = all.add(ways.get(i));
            least = i >= pairs ? least.add(ways.get(i)) : least;
        }
        return new BigInteger[] {least, all, BigInteger.valueOf(pairs)};
    }

    private static boolean tooMany(BigInteger[] together) {
        return together[1].compareTo(new BigInteger("4000000000000000000")) > 0;
    }

    long together(int thrower, int what) {
        if (noThrower(thrower) || what < 0 || what > 2) {
            return NONE;
        }
        BigInteger[] found = togetherOf(thrower);
        return tooMany(found) ? NONE : found[what].longValueExact();
    }

    long streak(int n, int k) {
        if (n < 1 || n > 60 || k < 1 || k > 60) {
            return NONE;
        }
        // By the HITS that end the row so far; those with k once stay so.
        BigInteger[] ways = new BigInteger[k + 1];
        java.util.Arrays.fill(ways, BigInteger.ZERO);
        ways[0] = BigInteger.ONE;
        for (int i = 0; i < n; i++) {
            BigInteger[] then = new BigInteger[k + 1];
            java.util.Arrays.fill(then, BigInteger.ZERO);
            for (int run = 0; run < k; run++) {
                then[0] = then[0].add(ways[run]);
                then[run + 1] = then[run + 1].add(ways[run]);
            }
            then[k] = then[k].add(ways[k]).add(ways[k]);
            ways = then;
        }
        return ways[k].longValueExact();
    }

    // ---- trials ----

    private static Frac chanceOfPairs(int n, int p, int e, int least) {
        long sum = 0;
        for (int bits = 0; bits < 1 << n; bits++) {
            boolean[] row = outcomes(bits, n);
            long weight = 1;
            int pairs = 0;
            for (int i = 0; i < n; i++) {
                int tenths = i == 0 ? p : row[i - 1] ? Math.min(10, p + e) : Math.max(0, p - e);
                weight *= row[i] ? tenths : 10 - tenths;
                pairs += i > 0 && row[i] && row[i - 1] ? 1 : 0;
            }
            sum += pairs >= least ? weight : 0;
        }
        return new Frac(BigInteger.valueOf(sum), BigInteger.TEN.pow(n)).least();
    }

    private static int lineOf(int n, int p, int w) {
        int c = 0;
        while (c < n && chanceOfPairs(n, p, 0, c).compare(Frac.of(w, 100)) > 0) {
            c++;
        }
        return c;
    }

    private static Frac powerOf(int n, int p, int e, int w) {
        return chanceOfPairs(n, p, e, lineOf(n, p, w));
    }

    private static boolean noTrial(int n, int p, int e, int w) {
        return n < 2 || n > 12 || p < 1 || p > 9 || e < 0 || e > 9 || w < 1 || w > 99;
    }

    long power(int n, int p, int e, int w, int what) {
        if (noTrial(n, p, e, w) || what < 0 || what > 2) {
            return NONE;
        }
        return what == 0 ? lineOf(n, p, w) : powerOf(n, p, e, w).part(what - 1);
    }

    int need(int p, int e, int w, int v) {
        if (noTrial(2, p, e, w) || v < 0 || v > 100) {
            return NONE;
        }
        for (int n = 2; n <= 12; n++) {
            if (powerOf(n, p, e, w).compare(Frac.of(v, 100)) >= 0) {
                return n;
            }
        }
        return NONE;
    }

    int strong(int n, int p, int w, int v) {
        if (noTrial(n, p, 1, w) || v < 0 || v > 100) {
            return NONE;
        }
        for (int e = 1; e <= 9; e++) {
            if (powerOf(n, p, e, w).compare(Frac.of(v, 100)) >= 0) {
                return e;
            }
        }
        return NONE;
    }

    // ---- hardness, people ----

    private int[] byHard(int thrower, int hard) {
        int[] found = new int[4];
        for (Row r : rowsOf(thrower)) {
            for (int i = 0; i < r.list().size(); i++) {
                Throw t = r.list().get(i);
                if (t.hard() == hard) {
                    boolean behind = i > 0 && r.list().get(i - 1).hit();
                    found[0] += t.hit() ? 1 : 0;
                    found[1]++;
                    found[2] += t.hit() && behind ? 1 : 0;
                    found[3] += behind ? 1 : 0;
                }
            }
        }
        return found;
    }

    int hards(int thrower, int hard, int what) {
        return noThrower(thrower) || hard < 0 || hard > 3 || what < 0 || what > 3 ? NONE : byHard(thrower, hard)[what];
    }

    long off(int thrower, int what) {
        if (noThrower(thrower) || not01(what)) {
            return NO;
        }
        Frac sum = ZERO;
        for (int hard = 0; hard < 4; hard++) {
            int[] f = byHard(thrower, hard);
            if (f[1] > 0) {
                sum = sum.plus(Frac.of(f[2], 1)).minus(Frac.of(f[3], 1).times(Frac.of(f[0], f[1])));
            }
        }
        return sum.part(what);
    }

    long chosen(int thrower, int what) {
        if (noThrower(thrower) || not01(what)) {
            return NO;
        }
        List<Frac> behind = new ArrayList<>();
        List<Frac> others = new ArrayList<>();
        for (Row r : rowsOf(thrower)) {
            for (int i = 0; i < r.list().size(); i++) {
                (i > 0 && r.list().get(i - 1).hit() ? behind : others).add(Frac.of(r.list().get(i).hard(), 1));
            }
        }
        return behind.isEmpty() || others.isEmpty() ? NO : mean(behind).minus(mean(others)).part(what);
    }

    int hundredths(int thrower) {
        if (noThrower(thrower)) {
            return NONE;
        }
        int all = 0;
        int hits = 0;
        for (Row r : rowsOf(thrower)) {
            all += r.list().size();
            hits += hits(r.list());
        }
        return all == 0 ? NONE : 100 * hits / all;
    }

    private static int apart(List<Integer> row) {
        int sum = 0;
        for (int v : row) {
            sum += Math.abs(v - row.get((row.size() - 1) / 2));
        }
        return sum;
    }

    int groups(int k, int what) {
        if (k < 1 || k > 3 || what < 0 || what > 3) {
            return NONE;
        }
        List<Integer> all = new ArrayList<>();
        for (int t = 0; t < throwers; t++) {
            if (hundredths(t) != NONE) {
                all.add(hundredths(t));
            }
        }
        Collections.sort(all);
        int n = all.size();
        if (n < k) {
            return NONE;
        }
        int[] best = null;
        for (int first = 1; first <= n; first++) {
            for (int second = 0; first + second <= n; second++) {
                int third = n - first - second;
                int used = 1 + (second > 0 ? 1 : 0) + (third > 0 ? 1 : 0);
                if (used != k || k == 2 && second == 0) {
                    continue;
                }
                int sum = apart(all.subList(0, first)) + apart(all.subList(first, first + second))
                        + apart(all.subList(first + second, n));
                if (best == null || sum < best[0]) {
                    best = new int[] {sum, first, second, third};
                }
            }
        }
        return best[what];
    }

    /** The share behind a HIT and that behind a miss; null if one isn't told. */
    private Frac[] shares(int thrower) {
        int[] hit = joinedOf(rowsOf(thrower), true, 1);
        int[] miss = joinedOf(rowsOf(thrower), false, 1);
        return hit[1] == 0 || miss[1] == 0 ? null : new Frac[] {Frac.of(hit[0], hit[1]), Frac.of(miss[0], miss[1])};
    }

    int above(int d) {
        if (d < 0 || d > 100) {
            return NONE;
        }
        int bits = 0;
        for (int t = 0; t < throwers; t++) {
            Frac[] s = shares(t);
            bits += s != null && s[0].minus(s[1]).compare(Frac.of(d, 100)) >= 0 ? 1 << t : 0;
        }
        return bits;
    }

    // ---- hidden states, watchers ----

    long hidden(int row, int stay, int hot, int cold, int what) {
        if (noRow(row) || stay < 0 || stay > 10 || hot < 0 || hot > 10 || cold < 0 || cold > 10 || what < 0
                || what > 2) {
            return NONE;
        }
        boolean[] hits = outcomes(rows.get(row).list());
        if (hits.length < 1 || hits.length > 9) {
            return NONE;
        }
        // The best and the sum of paths that end hot or cold, THROW by THROW.
        long all = 0;
        long best = -1;
        long least = -1;
        for (int path = (1 << hits.length) - 1; path >= 0; path--) {
            boolean[] states = outcomes(path, hits.length);
            long weight = 1;
            for (int i = hits.length - 1; i >= 0; i--) {
                int tenths = states[i] ? hot : cold;
                weight *= hits[i] ? tenths : 10 - tenths;
                weight *= i == 0 ? 1 : states[i] == states[i - 1] ? stay : 10 - stay;
            }
            all += weight;
            if (weight >= best) {
                best = weight;
                least = path;
            }
        }
        return what == 0 ? least : what == 1 ? best : all;
    }

    int bets(int watcher, int thrower, int what) {
        if (watcher < 0 || watcher > 3 || noThrower(thrower) || what < 0 || what > 3) {
            return NONE;
        }
        int[] found = new int[4];
        for (Row r : rowsOf(thrower)) {
            for (int k = 0; k < r.list().size(); k++) {
                List<Throw> ahead = r.list().subList(0, k);
                Throw now = r.list().get(k);
                for (Rule rule : beliefs.get(watcher)) {
                    if (holds(rule.asks(), ahead, state(laws.get(thrower), ahead), now.hard(), now.guard())) {
                        found[0] += rule.kind().equals("hit") ? 1 : 0;
                        found[1] += rule.kind().equals("hit") && now.hit() ? 1 : 0;
                        found[2] += rule.kind().equals("miss") ? 1 : 0;
                        found[3] += rule.kind().equals("miss") && !now.hit() ? 1 : 0;
                        break;
                    }
                }
            }
        }
        return found[what];
    }

    long odds(int watcher, int thrower, int what) {
        if (watcher < 0 || watcher > 3 || noThrower(thrower) || not01(what)) {
            return NONE;
        }
        List<Throw> all = new ArrayList<>();
        for (Row r : rowsOf(thrower)) {
            all.addAll(r.list());
        }
        if (all.size() > 60) {
            return NONE;
        }
        int laid = bets(watcher, thrower, 0);
        int right = bets(watcher, thrower, 1);
        long[][] ways = new long[62][62];
        ways[0][0] = 1;
        for (Throw t : all) {
            for (int b = 60; b >= 0; b--) {
                for (int h = 60; h >= 0; h--) {
                    ways[b + 1][h + (t.hit() ? 1 : 0)] += ways[b][h];
                }
            }
        }
        long least = 0;
        long sum = 0;
        for (int h = 0; h <= 60; h++) {
            sum += ways[laid][h];
            least += h >= right ? ways[laid][h] : 0;
        }
        return what == 0 ? least : sum;
    }

    // ---- games, worlds ----

    private Frac game(int[] who, List<List<Throw>> histories, int left, int k, int more) {
        if (left == 0) {
            return ZERO;
        }
        int done = histories.get(0).size() + histories.get(1).size();
        boolean given = k > 0 && word("run", histories.get(0), 0, 0, 0) >= k;
        int turn = given ? 0 : done % 2;
        List<Throw> list = histories.get(turn);
        List<Rule> law = laws.get(who[turn]);
        int hard = hard(law, list);
        int guard = Math.min(3, guard(law, list) + (given ? more : 0));
        int chance = chance(law, list, hard, guard);
        Frac sum = ZERO;
        for (int hit = 0; hit < 2; hit++) {
            list.add(new Throw(hit == 1, hard, guard));
            Frac then = game(who, histories, left - 1, k, more).plus(Frac.of(hit, 1));
            sum = sum.plus(then.times(Frac.of(hit == 1 ? chance : 100 - chance, 100)));
            list.remove(list.size() - 1);
        }
        return sum;
    }

    long give(int one, int other, int n, int k, int more, int what) {
        if (noThrower(one) || noThrower(other) || one == other || n < 1 || n > 8 || k < 1 || k > 5 || more < 0
                || more > 3 || what < 0 || what > 3) {
            return NONE;
        }
        List<List<Throw>> histories = List.of(new ArrayList<>(), new ArrayList<>());
        return game(new int[] {one, other}, histories, n, what < 2 ? 0 : k, more).part(what % 2);
    }

    long worlds(int thrower, int n, int many, int measure, int what) {
        if (noThrower(thrower) || n < 1 || n > 24 || many < 1 || many > 60 || noMeasure(measure) || what < 0
                || what > 2) {
            return NO;
        }
        BigInteger kept = z;
        List<Frac> found = new ArrayList<>();
        for (int i = 0; i < many; i++) {
            List<Throw> list = new ArrayList<>();
            for (int k = 0; k < n; k++) {
                dealOne(laws.get(thrower), list);
            }
            Frac v = value(measures.get(measure), outcomes(list));
            if (v != null) {
                found.add(v);
            }
        }
        z = kept;
        return what == 2 ? found.size() : part(mean(found), what);
    }

    int foretold(int thrower, int from, int to, int what) {
        if (noThrower(thrower) || from < 0 || from > 100 || to < 0 || to > 100 || what < 0 || what > 2) {
            return NONE;
        }
        int[] found = new int[3];
        for (Row r : rowsOf(thrower)) {
            for (int k = 0; k < r.list().size(); k++) {
                int chance = chanceAt(laws.get(thrower), r.list(), k);
                if (chance >= from && chance <= to) {
                    found[0] += chance;
                    found[1] += r.list().get(k).hit() ? 1 : 0;
                    found[2]++;
                }
            }
        }
        return found[what];
    }

    int heat(int thrower, int what) {
        if (noThrower(thrower) || what < 0 || what > 3) {
            return NONE;
        }
        int[] found = new int[4];
        for (Row r : rowsOf(thrower)) {
            int now = 0;
            for (int k = 0; k < r.list().size(); k++) {
                boolean hot = state(laws.get(thrower), r.list().subList(0, k)) > 0;
                now = hot ? now + 1 : 0;
                found[0] += hot ? 1 : 0;
                found[1] += hot && r.list().get(k).hit() ? 1 : 0;
                found[2] += now == 1 ? 1 : 0;
                found[3] = Math.max(found[3], now);
            }
        }
        return found[what];
    }

    int pooled(int what) {
        if (what < 0 || what > 5) {
            return NONE;
        }
        if (what < 4) {
            return joinedOf(rows, what < 2, 1)[what % 2];
        }
        int found = 0;
        for (int t = 0; t < throwers; t++) {
            Frac[] s = shares(t);
            found += s != null && (what == 4 ? s[0].compare(s[1]) > 0 : s[0].compare(s[1]) < 0) ? 1 : 0;
        }
        return found;
    }

    int season(int from, int to, boolean hit, int n, int what) {
        return noRow(from) || noRow(to) || from > to || n < 1 || n > 5 || not01(what) ? NONE
                : joinedOf(rows.subList(from, to + 1), hit, n)[what];
    }

    int say(int thrower, int e, int w) {
        if (noThrower(thrower) || e < 1 || e > 9 || w < 1 || w > 99) {
            return NONE;
        }
        int longest = 0;
        for (Row r : rowsOf(thrower)) {
            longest = Math.max(longest, r.list().size());
        }
        BigInteger[] found = togetherOf(thrower);
        if (longest < 2 || tooMany(found)) {
            return NONE;
        }
        if (new Frac(found[0], found[1]).compare(Frac.of(w, 100)) <= 0) {
            return 2;
        }
        int p = Math.max(1, Math.min(9, hundredths(thrower) / 10));
        return powerOf(Math.min(12, longest), p, e, w).compare(Frac.of(1, 2)) >= 0 ? 1 : 0;
    }

    // ---- images, counts ----

    private static List<Row> copy(List<Row> rows) {
        List<Row> list = new ArrayList<>();
        for (Row r : rows) {
            list.add(new Row(r.thrower(), new ArrayList<>(r.list())));
        }
        return list;
    }

    int image() {
        if (images.size() == 3) {
            return NONE;
        }
        images.add(new Image(throwers, copy(rows), z));
        return images.size() - 1;
    }

    boolean back(int image) {
        if (image < 0 || image >= images.size()) {
            return false;
        }
        throwers = images.get(image).throwers();
        rows = copy(images.get(image).rows());
        z = images.get(image).z();
        return true;
    }

    int count(int what) {
        int all = 0;
        int hits = 0;
        for (Row r : rows) {
            all += r.list().size();
            hits += hits(r.list());
        }
        switch (what) {
            case 0: return throwers;
            case 1: return rows.size();
            case 2: return all;
            case 3: return hits;
            case 4: return measures.size();
            case 5: return images.size();
            case 6: return tape.size();
            default:
                return what >= 10 && what < 22 ? laws.get(what - 10).size()
                        : what >= 30 && what < 34 ? beliefs.get(what - 30).size() : NONE;
        }
    }
}
