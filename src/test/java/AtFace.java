import java.lang.reflect.Constructor;
import java.lang.reflect.Field;
import java.lang.reflect.Method;
import java.lang.reflect.Modifier;
import java.util.Set;
import java.util.TreeSet;

/** What the document says ahead of its promises: what the class is, clause by clause, and its face, line by line. */
final class AtFace {
    private AtFace() {
    }

    static void run() {
        face();
        rows();
        laws();
        leans();
        odds();
        trials();
        hardness();
        groups();
        paths();
        bets();
        games();
        says();
        later();
    }

    // ---- the public face ----

    private static void face() {
        Due.under("the public face");
        Set<String> due = new TreeSet<>();
        for (String line : Doc.face()) {
            due.add(line.replaceAll(" \\w+(?=[,)])", "").replace(", ", ",").replaceAll(";$", ""));
        }
        Set<String> had = new TreeSet<>();
        had.add(head(HotHand.class.getModifiers(), "class HotHand {"));
        for (Field f : HotHand.class.getFields()) {
            had.add(head(f.getModifiers(), f.getType() + " " + f.getName() + " = " + valueOf(f)));
        }
        for (Constructor<?> c : HotHand.class.getConstructors()) {
            had.add(head(c.getModifiers(), c.getName() + parameters(c.getParameterTypes())));
        }
        for (Method m : HotHand.class.getDeclaredMethods()) {
            if (Modifier.isPublic(m.getModifiers())) {
                String name = m.getReturnType() + " " + m.getName();
                had.add(head(m.getModifiers(), name + parameters(m.getParameterTypes())));
            }
        }
        for (String line : due) {
            Due.due(line, had.contains(line), true);
        }
        for (String line : had) {
            Due.due("in the document: " + line, due.contains(line), true);
        }
        Due.due("a class, a constant, a constructor, 42 methods", due.size(), 45);
    }

    private static String head(int modifiers, String rest) {
        return Modifier.toString(modifiers) + " " + rest;
    }

    private static String valueOf(Field f) {
        try {
            return String.valueOf(f.get(null));
        } catch (IllegalAccessException e) {
            return e.getMessage();
        }
    }

    private static String parameters(Class<?>[] types) {
        StringBuilder all = new StringBuilder("(");
        for (Class<?> type : types) {
            all.append(all.length() > 1 ? "," : "").append(type);
        }
        return all.append(")").toString();
    }

    // ---- what it is ----

    /** The clause of "What it is" that the answers from here on are due by. */
    private static void is(String clause) {
        Doc.at(Doc.WHAT_IT_IS, clause);
    }

    private static void rows() {
        is("Throws in rows:");
        HotHand x = Due.with(1);
        int first = Due.row(x, 0, "H.H");
        int second = Due.row(x, 0, ".");
        Due.due("throws of the first row", x.told(first, HotHand.NONE, 1), 3);
        Due.due("hits of the first row", x.told(first, HotHand.NONE, 2), 2);
        Due.due("throws of the second row", x.told(second, HotHand.NONE, 1), 1);
        Due.due("hits of the second row", x.told(second, HotHand.NONE, 2), 0);
    }

    private static void laws() {
        is("throwers by laws in texts, with a state that heats and cools, who choose harder throws and are guarded;");
        HotHand x = Due.with(1);
        String law = "hit 50; state 1 if run > 1; state 0 if miss > 0; hard 2 if state > 0; guard 1 if hard > 1; "
                + "harder 10; guarded 5;";
        Due.due("rules", Due.law(x, 0, law), 7);
        int row = Due.row(x, 0, "HH");
        dueNext(x, row, 2, 1, 25, 1);
        x.thrown(row, false, 2, 1);
        dueNext(x, row, 0, 0, 50, 0);
    }

    private static void dueNext(HotHand x, int row, int... due) {
        for (int what = 0; what < due.length; what++) {
            Due.due("next(" + row + ", " + what + ")", x.next(row, what), due[what]);
        }
    }

    private static void leans() {
        is("measures in texts, and how far each leans on the mean for nothing, by all rows of a length;");
        HotHand x = new HotHand();
        Due.measure(x, "after hit 1");
        Due.measure(x, "after hit 1 - after miss 1");
        Due.due("three throws", x.lean(0, 3, 5, 0), x.lean(0, 3, 5, 1), 5, 12);
        Due.due("four throws", x.lean(0, 4, 5, 0), x.lean(0, 4, 5, 1), 17, 42);
        // H.H and .H. have 0 - 1, H.. 0 - 0, .HH 1 - 1; to the other four one of both is missing.
        Due.due("of both", x.lean(1, 3, 5, 0), x.lean(1, 3, 5, 1), -1, 2);
    }

    private static void odds() {
        is("odds by all shufflings of a row, of all rows together;");
        HotHand x = Due.with(1);
        Due.measure(x, "pairs hit hit");
        int row = Due.row(x, 0, "HH..");
        Due.due("orders with a pair", x.shuffle(row, 0, 0), 3);
        Due.due("orders", x.shuffle(row, 0, 1), 6);
        Due.row(x, 0, "HH.");
        Due.due("ways with two pairs", x.together(0, 0), 6);
        Due.due("ways", x.together(0, 1), 18);
    }

    private static void trials() {
        is("what a trial could have missed, how many throws it needs;");
        HotHand x = new HotHand();
        // Two hits: 1/2 times 8/10.
        Due.due("power", x.power(2, 5, 3, 25, 1), x.power(2, 5, 3, 25, 2), 2, 5);
        Due.due("need", x.need(5, 3, 25, 40), 2);
    }

    private static void hardness() {
        is("hardness taken off;");
        HotHand x = Due.with(1);
        int row = x.row(0);
        x.thrown(row, false, 3, 0);
        x.thrown(row, true, 0, 0);
        x.thrown(row, true, 3, 0);
        // One hit behind a hit, of hardness 3, of which half are hits.
        Due.due("off", x.off(0, 0), x.off(0, 1), 1, 2);
    }

    private static void groups() {
        is("people parted into groups;");
        HotHand x = Due.with(3);
        Due.row(x, 2, "..");
        Due.row(x, 0, "HH");
        Due.row(x, 1, "H.");
        Due.due("sum of two groups", x.groups(2, 0), 50);
        Due.due("the first", x.groups(2, 1), 1);
        Due.due("the second", x.groups(2, 2), 2);
        Due.due("sum of three groups", x.groups(3, 0), 0);
    }

    private static void paths() {
        is("a hidden state's likeliest path;");
        HotHand x = Due.with(1);
        int row = Due.row(x, 0, "H.");
        Due.due("hot, then cold", x.hidden(row, 8, 9, 1, 0), 1);
        Due.due("its weight", x.hidden(row, 8, 9, 1, 1), 9 * 2 * 9);
        Due.due("all", x.hidden(row, 8, 9, 1, 2), 9 * 2 * 9 + 1 * 8 * 9 + 9 * 8 * 1 + 1 * 2 * 1);
    }

    private static void bets() {
        is("bets of those who believe they see it;");
        HotHand x = Due.with(1);
        Due.belief(x, 1, "hit if run > 0; miss;");
        Due.row(x, 0, "HH.");
        int[] due = {2, 1, 1, 0};
        for (int what = 0; what < 4; what++) {
            Due.due("bets(1, 0, " + what + ")", x.bets(1, 0, what), due[what]);
        }
    }

    private static void games() {
        is("what giving the ball to the hot one is worth when guards do as well;");
        HotHand x = Due.with(2);
        Due.law(x, 0, "hit 60; guarded 10;");
        Due.law(x, 1, "hit 30;");
        Due.due("in turns", x.give(0, 1, 2, 1, 1, 0), x.give(0, 1, 2, 1, 1, 1), 9, 10);
        Due.due("given", x.give(0, 1, 2, 1, 1, 2), x.give(0, 1, 2, 1, 1, 3), 51, 50);
        Due.due("with three guards", x.give(0, 1, 2, 1, 3, 2), x.give(0, 1, 2, 1, 3, 3), 9, 10);
    }

    private static void says() {
        is("what may be said.");
        HotHand x = Due.with(1);
        Due.row(x, 0, "HH..");
        Due.due("half of all orders have a pair", x.say(0, 1, 50), 2);
        Due.due("three hits or none would have been seen half the time", x.say(0, 9, 49), 1);
        Due.due("a weak state would not", x.say(0, 1, 49), 0);
    }

    private static void later() {
        is("what later calls answer is free.");
        HotHand x = Due.with(12);
        for (int call = 13; call <= 2000; call++) {
            x.row(call % 12);
            x.deal(call % 60, 1);
            x.feed(call, call, call, call, call);
        }
        Due.due("every call ends", x.count(0) >= HotHand.NONE, true);
    }
}
