import java.util.Random;

/** Long runs of calls drawn from a fixed seed, each answer compared with the plain second writing of the document. */
public final class CompareTest {
    private static final int RUNS = 160;
    private static final int CALLS = 500;

    private final Random random;
    private final HotHand x = new HotHand();
    private final Naive y = new Naive();
    private final int run;
    private String last = "";

    private CompareTest(int run) {
        this.run = run;
        this.random = new Random(1000 + run);
    }

    private int upTo(int most) {
        return random.nextInt(most + 1);
    }

    /** Mostly from least to most, at times just outside or far away. */
    private int near(int least, int most) {
        int chance = random.nextInt(40);
        if (chance == 0) {
            return least - 1;
        }
        if (chance == 1) {
            return most + 1;
        }
        if (chance == 2) {
            return random.nextBoolean() ? Integer.MIN_VALUE : Integer.MAX_VALUE;
        }
        return least + random.nextInt(Math.max(1, most - least + 1));
    }

    private String pick(String... of) {
        return of[random.nextInt(of.length)];
    }

    private String blank() {
        return pick(" ", " ", " ", "", "\n", "  ");
    }

    private String number(int most) {
        int v = upTo(most);
        return random.nextInt(12) == 0 ? String.format("%03d", v) : Integer.toString(v);
    }

    private String one(int depth) {
        int kind = random.nextInt(depth > 5 ? 4 : 7);
        if (kind == 4) {
            return "not " + one(depth + 1);
        }
        if (kind == 5 || kind == 6) {
            return "(" + blank() + any(depth + 1) + blank() + ")";
        }
        String word = pick("run", "miss", "state", "place", "hard", "guard", "hits");
        return word + blank() + pick("<", ">", "=") + blank() + number(random.nextInt(8) == 0 ? 99 : 4);
    }

    private String all(int depth) {
        StringBuilder b = new StringBuilder(one(depth));
        while (random.nextInt(4) == 0 && b.length() < 80) {
            b.append(" and ").append(one(depth));
        }
        return b.toString();
    }

    private String any(int depth) {
        StringBuilder b = new StringBuilder(all(depth));
        while (random.nextInt(4) == 0 && b.length() < 120) {
            b.append(" or ").append(all(depth));
        }
        return b.toString();
    }

    private String rules(boolean law) {
        StringBuilder b = new StringBuilder();
        int many = random.nextInt(15) == 0 ? 22 + upTo(5) : upTo(9);
        boolean brief = many > 20;
        for (int i = 0; i < many; i++) {
            String kind = law ? pick("hit", "hit", "hard", "guard", "state", "state", "harder", "guarded")
                    : pick("hit", "miss", "pass");
            b.append(kind);
            if (law) {
                int most = kind.equals("hit") ? 100 : kind.equals("state") ? 9
                        : kind.equals("hard") || kind.equals("guard") ? 3 : random.nextInt(5) == 0 ? 99 : 9;
                b.append(' ').append(number(most));
            }
            if (!brief && random.nextInt(5) > 0 && !kind.startsWith("harde") && !kind.equals("guarded")) {
                b.append(" if ").append(any(0));
            }
            b.append(';').append(blank());
        }
        return b.toString();
    }

    private String measure() {
        StringBuilder b = new StringBuilder();
        int terms = 1 + random.nextInt(random.nextInt(10) == 0 ? 5 : 3);
        for (int i = 0; i < terms; i++) {
            b.append(i == 0 ? "" : blank() + pick("+", "-") + blank());
            b.append(random.nextInt(3) == 0 ? 1 + upTo(2) + blank() : "");
            String kind = pick("share", "after", "after", "runs", "longest", "hits", "pairs", "first");
            b.append(kind);
            if (kind.matches("after|longest|pairs|first")) {
                b.append(' ').append(pick("hit", "miss"));
            }
            if (kind.equals("pairs")) {
                b.append(' ').append(pick("hit", "miss"));
            }
            if (kind.equals("after")) {
                b.append(blank()).append(1 + upTo(random.nextInt(4) == 0 ? 4 : 1));
            }
        }
        return b.toString();
    }

    /** Changes a text here or there, so that most of these have a FAULT. */
    private String spoil(String text) {
        StringBuilder b = new StringBuilder(text);
        int at = random.nextInt(b.length() + 1);
        switch (random.nextInt(6)) {
            case 0:
                b.setLength(at);
                break;
            case 1:
                b.insert(at, pick("not ", "(", ")", ";", "if ", "7", "+", "hit ", "state ", "and ", "or", " miss"));
                break;
            case 2:
                b.insert(at, (char) random.nextInt(256));
                break;
            case 3:
                b.insert(at, "not (not (not (not (not (");
                break;
            case 4:
                b.insert(at, pick("100", "0004", "10", "04", "101", "99"));
                break;
            default:
                if (at < b.length()) {
                    b.deleteCharAt(at);
                }
        }
        return b.toString();
    }

    private void due(String call, long got, long want) {
        last = call;
        Due.due("run " + run + ": " + call, got, want);
    }

    private void feedBoth(String text) {
        for (int from = 0; from < text.length(); from += 20) {
            int[] five = new int[5];
            for (int i = 0; i < 20; i++) {
                five[i / 4] = five[i / 4] << 8 | (from + i < text.length() ? text.charAt(from + i) : 32);
            }
            due("feed of " + text, x.feed(five[0], five[1], five[2], five[3], five[4]),
                    y.feed(five[0], five[1], five[2], five[3], five[4]));
        }
    }

    private void tellText() {
        int kind = random.nextInt(3);
        String text = kind == 0 ? rules(true) : kind == 1 ? rules(false) : measure();
        if (random.nextInt(3) == 0) {
            text = spoil(text);
        }
        feedBoth(text);
        int n = random.nextInt(15) == 0 ? near(0, 600) : text.length();
        int whose = kind == 0 ? near(0, 4) : near(0, 3);
        String call = " of " + text + " (" + whose + ", " + n + ")";
        if (kind == 0) {
            due("law" + call, x.law(whose, n), y.law(whose, n));
        } else if (kind == 1) {
            due("belief" + call, x.belief(whose, n), y.belief(whose, n));
        } else {
            due("measure" + call, x.measure(n), y.measure(n));
        }
        due("fault behind " + call, x.fault(), y.fault());
        due("tape behind " + call, x.count(6), y.count(6));
        if (y.count(6) > 0 && random.nextBoolean()) {
            due("law(0, 0)", x.law(0, 0), y.law(0, 0));
        }
    }

    private int anyRow() {
        return near(0, Math.max(0, y.count(1) - 1));
    }

    private int anyThrower() {
        return near(0, Math.max(0, y.count(0) - 1));
    }

    private int anyMeasure() {
        return near(0, Math.max(0, y.count(4) - 1));
    }

    private void change() {
        int a = anyRow();
        switch (random.nextInt(12)) {
            case 0:
                if (y.count(0) < 4 || random.nextInt(6) == 0) {
                    due("thrower()", x.thrower(), y.thrower());
                }
                break;
            case 1: case 2: case 3:
                int t = anyThrower();
                due("row(" + t + ")", x.row(t), y.row(t));
                break;
            case 4: case 5: case 6:
                int n = near(1, random.nextInt(4) == 0 ? 24 : 9);
                due("deal(" + a + ", " + n + ")", x.deal(a, n), y.deal(a, n));
                break;
            case 7: case 8:
                for (int i = upTo(6); i >= 0; i--) {
                    boolean hit = random.nextBoolean();
                    int hard = near(0, 3);
                    int guard = near(0, 3);
                    due("thrown(" + a + ", " + hit + ", " + hard + ", " + guard + ")",
                            x.thrown(a, hit, hard, guard), y.thrown(a, hit, hard, guard));
                }
                break;
            case 9:
                int v = near(0, 999_999_999);
                due("seed(" + v + ")", x.seed(v) ? 1 : 0, y.seed(v) ? 1 : 0);
                break;
            case 10:
                if (random.nextInt(5) == 0) {
                    due("image()", x.image(), y.image());
                }
                break;
            default:
                if (random.nextInt(3) == 0) {
                    int i = near(0, 2);
                    due("back(" + i + ")", x.back(i) ? 1 : 0, y.back(i) ? 1 : 0);
                }
        }
    }

    private void askThrows() {
        int a = anyRow();
        int k = near(-1, Math.max(0, y.told(a, -1, 1) - 1));
        int what = near(0, 7);
        due("told(" + a + ", " + k + ", " + what + ")", x.told(a, k, what), y.told(a, k, what));
        int w = near(0, 3);
        due("next(" + a + ", " + w + ")", x.next(a, w), y.next(a, w));
        int c = near(0, 34);
        due("count(" + c + ")", x.count(c), y.count(c));
    }

    private void askMeasures() {
        int a = anyRow();
        int t = near(-1, Math.max(0, y.count(0) - 1));
        int m = anyMeasure();
        int what = near(0, 1);
        boolean hit = random.nextBoolean();
        int n = near(1, 5);
        due("value(" + a + ", " + m + ", " + what + ")", x.value(a, m, what), y.value(a, m, what));
        due("mean(" + t + ", " + m + ", " + what + ")", x.mean(t, m, what), y.mean(t, m, what));
        due("joined(" + t + ", " + hit + ", " + n + ", " + what + ")", x.joined(t, hit, n, what), y.joined(t, hit, n, what));
        int from = anyRow();
        due("season(" + from + ", " + a + ", " + hit + ", " + n + ", " + what + ")",
                x.season(from, a, hit, n, what), y.season(from, a, hit, n, what));
        int p = near(1, 9);
        int long12 = random.nextInt(60) == 0 ? 12 : near(1, 6);
        due("lean(" + m + ", " + long12 + ", " + p + ", " + what + ")", x.lean(m, long12, p, what), y.lean(m, long12, p, what));
        if (y.told(a, -1, 1) < 9 || y.told(a, -1, 1) > 12 || random.nextInt(20) == 0) {
            due("right(" + a + ", " + m + ", " + p + ", " + what + ")", x.right(a, m, p, what), y.right(a, m, p, what));
        }
        if (y.told(a, -1, 1) < 11 || y.told(a, -1, 1) > 16 || random.nextInt(20) == 0) {
            due("shuffle(" + a + ", " + m + ", " + what + ")", x.shuffle(a, m, what), y.shuffle(a, m, what));
        }
    }

    private void askChances() {
        int t = anyThrower();
        int what = near(0, 2);
        due("together(" + t + ", " + what + ")", x.together(t, what), y.together(t, what));
        int n = near(1, 60);
        int k = near(1, random.nextBoolean() ? 60 : 6);
        due("streak(" + n + ", " + k + ")", x.streak(n, k), y.streak(n, k));
        int p = near(1, 9);
        int e = near(0, 9);
        int w = near(1, 99);
        int v = near(0, 100);
        int tries = random.nextInt(20) == 0 ? near(9, 12) : near(2, 8);
        due("power(" + tries + ", " + p + ", " + e + ", " + w + ", " + what + ")",
                x.power(tries, p, e, w, what), y.power(tries, p, e, w, what));
        if (random.nextInt(20) == 0) {
            due("need(" + p + ", " + e + ", " + w + ", " + v + ")", x.need(p, e, w, v), y.need(p, e, w, v));
        }
        due("strong(" + tries + ", " + p + ", " + w + ", " + v + ")", x.strong(tries, p, w, v), y.strong(tries, p, w, v));
        if (random.nextInt(4) == 0) {
            due("say(" + t + ", " + e + ", " + w + ")", x.say(t, e, w), y.say(t, e, w));
        }
    }

    private void askPeople() {
        int t = anyThrower();
        int four = near(0, 3);
        int two = near(0, 1);
        int hard = near(0, 3);
        due("hards(" + t + ", " + hard + ", " + four + ")", x.hards(t, hard, four), y.hards(t, hard, four));
        due("off(" + t + ", " + two + ")", x.off(t, two), y.off(t, two));
        due("chosen(" + t + ", " + two + ")", x.chosen(t, two), y.chosen(t, two));
        due("hundredths(" + t + ")", x.hundredths(t), y.hundredths(t));
        int k = near(1, 3);
        due("groups(" + k + ", " + four + ")", x.groups(k, four), y.groups(k, four));
        int d = random.nextBoolean() ? near(0, 100) : near(0, 10);
        due("above(" + d + ")", x.above(d), y.above(d));
        int six = near(0, 5);
        due("pooled(" + six + ")", x.pooled(six), y.pooled(six));
        due("heat(" + t + ", " + four + ")", x.heat(t, four), y.heat(t, four));
        int from = near(0, 100);
        int to = near(from, 100);
        int what = near(0, 2);
        due("foretold(" + t + ", " + from + ", " + to + ", " + what + ")",
                x.foretold(t, from, to, what), y.foretold(t, from, to, what));
    }

    private void askWorlds() {
        int a = anyRow();
        int t = anyThrower();
        int three = near(0, 2);
        int stay = near(0, 10);
        int hot = near(0, 10);
        int cold = near(0, 10);
        due("hidden(" + a + ", " + stay + ", " + hot + ", " + cold + ", " + three + ")",
                x.hidden(a, stay, hot, cold, three), y.hidden(a, stay, hot, cold, three));
        int watcher = near(0, 3);
        int four = near(0, 3);
        int two = near(0, 1);
        due("bets(" + watcher + ", " + t + ", " + four + ")", x.bets(watcher, t, four), y.bets(watcher, t, four));
        due("odds(" + watcher + ", " + t + ", " + two + ")", x.odds(watcher, t, two), y.odds(watcher, t, two));
        int other = anyThrower();
        int n = near(1, random.nextInt(10) == 0 ? 8 : 5);
        int k = random.nextBoolean() ? near(1, 5) : near(1, 2);
        int more = near(0, 3);
        due("give(" + t + ", " + other + ", " + n + ", " + k + ", " + more + ", " + four + ")",
                x.give(t, other, n, k, more, four), y.give(t, other, n, k, more, four));
        int length = near(1, random.nextInt(10) == 0 ? 24 : 8);
        int many = near(1, random.nextInt(10) == 0 ? 60 : 8);
        int m = anyMeasure();
        due("worlds(" + t + ", " + length + ", " + many + ", " + m + ", " + three + ")",
                x.worlds(t, length, many, m, three), y.worlds(t, length, many, m, three));
    }

    /** A start with something of everything, so that most answers tell something. */
    private void setUp() {
        for (int i = 0; i < 3; i++) {
            due("thrower()", x.thrower(), y.thrower());
            String law = rules(true);
            feedBoth(law);
            due("law of " + law, x.law(i, law.length()), y.law(i, law.length()));
            String belief = rules(false);
            feedBoth(belief);
            due("belief of " + belief, x.belief(i, belief.length()), y.belief(i, belief.length()));
        }
        for (int i = 0; i < 6; i++) {
            String text = measure();
            feedBoth(text);
            due("measure of " + text, x.measure(text.length()), y.measure(text.length()));
            due("row(" + i % 3 + ")", x.row(i % 3), y.row(i % 3));
            int n = 1 + upTo(i == 5 ? 23 : 8);
            due("deal(" + i + ", " + n + ")", x.deal(i, n), y.deal(i, n));
        }
    }

    private void run() {
        if (run % 4 > 0) {
            setUp();
        }
        for (int i = 0; i < CALLS / 8; i++) {
            tellTextAtTimes();
            change();
            change();
            switch (random.nextInt(6)) {
                case 0: askThrows(); break;
                case 1: askMeasures(); break;
                case 2: askChances(); break;
                case 3: askPeople(); break;
                default: askWorlds();
            }
        }
    }

    private void tellTextAtTimes() {
        if (random.nextInt(3) == 0) {
            tellText();
        }
    }

    public static void main(String[] args) {
        int runs = args.length > 0 ? Integer.parseInt(args[0]) : RUNS;
        int first = args.length > 1 ? Integer.parseInt(args[1]) : 0;
        for (int run = first; run < first + runs; run++) {
            CompareTest test = new CompareTest(run);
            try {
                test.run();
            } catch (RuntimeException e) {
                System.out.println("run " + run + " behind " + test.last + ": " + e);
                e.printStackTrace(System.out);
                Due.due("a run that throws", 1, 0);
            }
        }
        Due.end("CompareTest");
    }
}
