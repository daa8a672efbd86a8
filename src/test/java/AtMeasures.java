/** The terms about measures, and promises 14 to 16: values, means, throws behind others. */
final class AtMeasures {
    private static final int NONE = HotHand.NONE;
    private static final long NO = Edge.NO;

    private AtMeasures() {
    }

    static void run() {
        texts();
        terms();
        kinds();
        faults();
        values();
        after();
        counted();
        first();
        emptyRow();
        value();
        mean();
        joined();
    }

    private static void isMeasure(String text) {
        HotHand x = new HotHand();
        Due.due("measure of '" + text + "'", Due.measure(x, text), 0);
        Due.due("fault of '" + text + "'", x.fault(), NONE);
    }

    private static void isNone(String text, int place) {
        HotHand x = new HotHand();
        Due.due("measure of '" + text + "'", Due.measure(x, text), NONE);
        Due.due("fault of '" + text + "'", x.fault(), place);
    }

    private static void texts() {
        Doc.at(Doc.TERMS, "MEASURES, up to 12, are texts:");
        HotHand x = new HotHand();
        for (int i = 0; i < 12; i++) {
            Due.due("a measure", Due.measure(x, "runs"), i);
        }
        Due.due("a thirteenth", Due.measure(x, "runs"), -3);
        Due.due("measures", x.count(4), 12);
        Doc.at(Doc.TERMS, "TERM {(\"+\" | \"-\") TERM}, at most 4:");
        isMeasure("runs");
        isMeasure("runs+runs");
        isMeasure("runs - runs + runs - runs");
        isNone("", 0);
        isNone(" \n", 2);
        isNone("+runs", 0);
        isNone("-runs", 0);
        isNone("runs runs", 5);
        isNone("runs +", 6);
        isNone("runs * runs", 5);
        isNone("runs;", 4);
        isNone("runs+runs+runs+runs+runs", 19);
        valueOf("HHM", "hits - runs", 0, 1);
        valueOf("HHM", "hits - runs - runs - runs", -4, 1);
        valueOf("HHM", "hits - runs + runs - runs", 0, 1);
        valueOf("HHM", "hits - runs - runs + first miss", 1, 1);
    }

    private static void valueOf(String letters, String measure, long upper, long lower) {
        HotHand x = Due.with(1);
        Due.row(x, 0, letters);
        Due.due("measure of '" + measure + "'", Due.measure(x, measure), 0);
        Due.due(measure + " of " + letters, x.value(0, 0, 0), x.value(0, 0, 1), upper, lower);
    }

    private static void terms() {
        Doc.at(Doc.TERMS, "[TIMES] KIND, TIMES 1 to 3 (1 without).");
        valueOf("HH", "hits", 2, 1);
        valueOf("HH", "1 hits", 2, 1);
        valueOf("HH", "3hits", 6, 1);
        valueOf("HH", "3 hits - 2 hits", 2, 1);
        isNone("0 hits", 0);
        isNone("4 hits", 0);
        isNone("hits + 4 hits", 7);
        isNone("10 hits", 0);
        isNone("2 3 hits", 2);
        isNone("3", 1);
        isNone("3 + hits", 2);
    }

    private static void kinds() {
        Doc.at(Doc.TERMS, "KIND: \"share\" | \"after\" OF N | \"runs\" | \"longest\" OF | \"hits\" | \"pairs\" OF OF |"
                + " \"first\" OF. OF: \"hit\" | \"miss\".");
        for (String word : new String[] {"share", "runs", "hits"}) {
            isMeasure(word);
            isNone(word + " hit", word.length() + 1);
            isNone(word + " 1", word.length() + 1);
            isNone(word + "s", 0);
        }
        for (String of : new String[] {"hit", "miss"}) {
            isMeasure("after " + of + " 1");
            isMeasure("longest " + of);
            isMeasure("first " + of);
            isMeasure("pairs hit " + of);
            isMeasure("pairs miss " + of);
            isNone("after " + of, 6 + of.length());
            isNone("pairs " + of, 6 + of.length());
            isNone("pairs " + of + " 1", 7 + of.length());
            isNone("pairs " + of + " hit miss", 11 + of.length());
            isNone("longest " + of + " 1", 9 + of.length());
            isNone("first " + of + " " + of, 7 + of.length());
            isNone(of, 0);
        }
        for (String word : new String[] {"after", "longest", "pairs", "first"}) {
            isNone(word, word.length());
            isNone(word + " 1", word.length() + 1);
            isNone(word + " hits", word.length() + 1);
            isNone(word + " + hits", word.length() + 1);
        }
        for (String word : new String[] {"run", "miss", "place", "hard", "state", "pass", "if", "and", "not", "afters"}) {
            isNone(word, 0);
            isNone(word + " hit", 0);
            isNone("hits + " + word + " hit 1", 7);
        }
        Doc.at(Doc.TERMS, "N: 1 to 5.");
        isNone("after hit 0", 10);
        isMeasure("after hit 1");
        isMeasure("after miss 5");
        isNone("after miss 6", 11);
        isNone("after hit 15", 10);
        isNone("after hit -1", 10);
    }

    private static void faults() {
        Doc.at(Doc.TERMS, "FAULT likewise (the fifth TERM: at its sign).");
        isMeasure("hits+hits+hits+hits  ");
        isNone("hits+hits+hits+hits + hits", 20);
        isNone("hits+hits+hits+hits -", 20);
        isNone("hits+hits+hits+hits+?", 19);
        isNone("hits+hits+hits+hits hits", 20);
        isNone("hits+hits+hits+4 hits + hits", 15);
        isNone("hits+hits+hits+", 15);
        isNone("hits +\n", 7);
        isNone("Hits", 0);
        isNone("hits\t", 4);
        isNone("hits " + (char) 255, 5);
        isNone("foo + bar", 0);
    }

    private static void values() {
        Doc.at(Doc.TERMS, "VALUE of a row, a whole fraction, or none if some TERM has none:");
        valueOf("HM", "share + 2 hits", 5, 2);
        valueOf("HM", "after miss 1", NO, NO);
        valueOf("HM", "hits + after miss 1", NO, NO);
        valueOf("HM", "after miss 1 + hits", NO, NO);
        valueOf("HM", "hits + hits + hits - after miss 1", NO, NO);
        valueOf("HM", "after hit 1 - after miss 1", NO, NO);
        valueOf("HMH", "after hit 1 - after miss 1", -1, 1);
        Doc.at(Doc.TERMS, "share: HITS by THROWS;");
        valueOf("H", "share", 1, 1);
        valueOf("M", "share", 0, 1);
        valueOf("HHMM", "share", 1, 2);
        valueOf("H" + "M".repeat(22), "share", 1, 23);
        valueOf("H".repeat(23) + "M", "share", 23, 24);
        valueOf("H".repeat(24), "share", 1, 1);
    }

    private static void after() {
        Doc.at(Doc.TERMS, "after: of THROWS with N (HITS or misses) just ahead of them HITS by all (none without such);");
        valueOf("H", "after hit 1", NO, NO);
        valueOf("MH", "after hit 1", NO, NO);
        valueOf("HM", "after hit 1", 0, 1);
        valueOf("HH", "after hit 1", 1, 1);
        for (int n = 1; n <= 5; n++) {
            String hits = "H".repeat(n);
            String misses = "M".repeat(n);
            valueOf(hits, "after hit " + n, NO, NO);
            valueOf(hits + "M", "after hit " + n, 0, 1);
            valueOf("M" + hits + "H", "after hit " + n, 1, 1);
            valueOf(hits.substring(1) + "MH", "after hit " + n, NO, NO);
            valueOf(misses, "after miss " + n, NO, NO);
            valueOf(misses + "H", "after miss " + n, 1, 1);
            valueOf("H" + misses + "M", "after miss " + n, 0, 1);
            valueOf(hits + "HHM", "after hit " + n, 2, 3);
            valueOf(misses + "MMMMH", "after miss " + n, 1, 5);
        }
        // More than N ahead are N ahead, too.
        valueOf("HHHM", "after hit 2", 1, 2);
        valueOf("H".repeat(24), "after hit 1", 1, 1);
        valueOf("M".repeat(23) + "H", "after miss 1", 1, 23);
    }

    private static void counted() {
        Doc.at(Doc.TERMS, "runs: rows of alike ones, one behind the other;");
        valueOf("H", "runs", 1, 1);
        valueOf("M", "runs", 1, 1);
        valueOf("MMMM", "runs", 1, 1);
        valueOf("MHHM", "runs", 3, 1);
        valueOf("HM".repeat(12), "runs", 24, 1);
        valueOf("MH".repeat(12), "runs", 24, 1);
        valueOf("M".repeat(23) + "H", "runs", 2, 1);
        Doc.at(Doc.TERMS, "longest: such a row of OF;");
        valueOf("MM", "longest hit", 0, 1);
        valueOf("HH", "longest miss", 0, 1);
        valueOf("HHMHHHM", "longest hit", 3, 1);
        valueOf("HHHMHH", "longest hit", 3, 1);
        valueOf("HMHHHMHM", "longest hit", 3, 1);
        valueOf("HMMHMMM", "longest miss", 3, 1);
        valueOf("H".repeat(24), "longest hit", 24, 1);
        valueOf("M".repeat(24), "longest miss", 24, 1);
        valueOf("H" + "M".repeat(23), "longest miss", 23, 1);
        Doc.at(Doc.TERMS, "hits: HITS;");
        valueOf("M", "hits", 0, 1);
        valueOf("MHM", "hits", 1, 1);
        valueOf("H".repeat(24), "hits", 24, 1);
        Doc.at(Doc.TERMS, "pairs: THROWS of the second OF just behind one of the first;");
        valueOf("H", "pairs hit hit", 0, 1);
        valueOf("M", "pairs miss miss", 0, 1);
        valueOf("HHHMMHM", "pairs hit hit", 2, 1);
        valueOf("HHHMMHM", "pairs hit miss", 2, 1);
        valueOf("HHHMMHM", "pairs miss hit", 1, 1);
        valueOf("HHHMMHM", "pairs miss miss", 1, 1);
        valueOf("H".repeat(24), "pairs hit hit", 23, 1);
        valueOf("M".repeat(24), "pairs miss miss", 23, 1);
    }

    private static void first() {
        Doc.at(Doc.TERMS, "first: at which place (from 1 on) OF is first, 0 without.");
        valueOf("H", "first hit", 1, 1);
        valueOf("H", "first miss", 0, 1);
        valueOf("M", "first hit", 0, 1);
        valueOf("M", "first miss", 1, 1);
        valueOf("MMHMH", "first hit", 3, 1);
        valueOf("HHM", "first miss", 3, 1);
        valueOf("M".repeat(23) + "H", "first hit", 24, 1);
        valueOf("M".repeat(24), "first hit", 0, 1);
        valueOf("H".repeat(23) + "M", "first miss", 24, 1);
        valueOf("H".repeat(24), "first miss", 0, 1);
    }

    private static void emptyRow() {
        Doc.at(Doc.TERMS, "Of an empty row none.");
        for (String measure : new String[] {"share", "after hit 1", "runs", "longest miss", "hits", "pairs hit hit", "first hit"}) {
            valueOf("", measure, NO, NO);
        }
        valueOf("M", "runs + longest miss + hits + first hit", 2, 1);
    }

    private static void value() {
        Doc.at(14, "VALUE of a ROW: the upper number (what 0), the lower one (1), in lowest terms (above 0).");
        valueOf("HHMM", "share", 1, 2);
        valueOf("HMM", "3 share", 1, 1);
        valueOf("HMM", "share - hits", -2, 3);
        valueOf("HMM", "share - share", 0, 1);
        valueOf("MM", "share", 0, 1);
        valueOf("H".repeat(24), "3 hits + 3 hits + 3 hits + 3 hits", 288, 1);
        valueOf("H".repeat(24), "first miss - 3 hits - 3 hits - 3 hits", -216, 1);
        // 19 by 23 and 18 by 19: two great lower numbers.
        valueOf("H".repeat(19) + "MMMM", "share + after hit 1", 775, 437);
        Doc.at(14, "-1,000,000,000,000: none, none such.");
        valueOf("H", "after miss 1", NO, NO);
        HotHand x = Due.with(1);
        Due.row(x, 0, "HM");
        Due.row(x, 0, "HMM");
        Due.measure(x, "share");
        Due.measure(x, "hits");
        Edge.of("row", 0, 1, NO, row -> x.value(row, 0, 0));
        Edge.of("measure", 0, 1, NO, measure -> x.value(0, measure, 0));
        Edge.of("what", 0, 1, NO, what -> x.value(0, 0, what));
    }

    private static void mean() {
        HotHand x = Due.with(3);
        Due.measure(x, "share");
        Due.measure(x, "after hit 1");
        Due.row(x, 0, "HHM");
        Due.row(x, 0, "MMMM");
        Due.row(x, 0, "");
        Due.row(x, 1, "HH");
        Due.row(x, 1, "M");
        Doc.at(Doc.TERMS, "MEAN of a MEASURE for a THROWER (or all): of the VALUES of ROWS that have one.");
        Due.due("2/3 and 0", x.mean(0, 0, 0), x.mean(0, 0, 1), 1, 3);
        Due.due("1/2 alone", x.mean(0, 1, 0), x.mean(0, 1, 1), 1, 2);
        Due.due("1 and 0", x.mean(1, 0, 0), x.mean(1, 0, 1), 1, 2);
        Due.due("2/3, 0, 1, 0", x.mean(NONE, 0, 0), x.mean(NONE, 0, 1), 5, 12);
        Due.due("1/2 and 1", x.mean(NONE, 1, 0), x.mean(NONE, 1, 1), 3, 4);
        Doc.at(15, "MEAN (THROWER NONE: of all ROWS), likewise.");
        Edge.of("thrower", -1, 1, NO, t -> x.mean(t, 0, 0));
        Edge.of("measure", 0, 1, NO, m -> x.mean(0, m, 0));
        Edge.of("what", 0, 1, NO, what -> x.mean(0, 0, what));
        Due.due("no rows", x.mean(2, 0, 0), NO);
        Due.due("no such thrower", x.mean(3, 0, 0), NO);
        x.row(2);
        Due.due("an empty row", x.mean(2, 0, 1), NO);
        x.thrown(5, true, 0, 0);
        Due.due("one throw", x.mean(2, 0, 0), x.mean(2, 0, 1), 1, 1);
        Due.due("none has one", x.mean(2, 1, 0), NO);
        HotHand y = new HotHand();
        Due.measure(y, "hits");
        Due.due("no rows at all", y.mean(NONE, 0, 0), NO);
        HotHand full = Due.with(1);
        Due.measure(full, "3 hits + 3 hits + 3 hits - share");
        Due.law(full, 0, "hit 100;");
        for (int i = 0; i < 60; i++) {
            full.row(0);
            full.deal(i, i == 0 ? 23 : 24);
        }
        // 206 once, 215 else.
        Due.due("of 60 rows", full.mean(0, 0, 0), full.mean(0, 0, 1), (206 + 59 * 215) / 3, 20);
    }

    private static void joined() {
        HotHand x = Due.with(3);
        Due.row(x, 0, "HHHHHMH");
        Due.row(x, 0, "HMMMMMHM");
        Due.row(x, 1, "HH");
        Doc.at(Doc.TERMS, "JOINED: HITS by all THROWS behind N of OF just ahead, of all ROWS together.");
        // Rows are joined, but no throw of one is behind those of another.
        int[] hits = {4, 3, 2, 1, 0};
        int[] all = {7, 4, 3, 2, 1};
        int[] missHits = {2, 1, 1, 1, 1};
        int[] misses = {6, 4, 3, 2, 1};
        for (int n = 1; n <= 5; n++) {
            Due.due("hits behind hits, " + n, x.joined(0, true, n, 0), hits[n - 1]);
            Due.due("all behind hits, " + n, x.joined(0, true, n, 1), all[n - 1]);
            Due.due("hits behind misses, " + n, x.joined(0, false, n, 0), missHits[n - 1]);
            Due.due("all behind misses, " + n, x.joined(0, false, n, 1), misses[n - 1]);
        }
        Doc.at(16, "JOINED: HITS (what 0), all (1).");
        Due.due("hits", x.joined(1, true, 1, 0), 1);
        Due.due("all", x.joined(1, true, 1, 1), 1);
        Due.due("none behind two", x.joined(1, true, 2, 1), 0);
        Due.due("no rows", x.joined(2, true, 1, 1), 0);
        Doc.at(16, "NONE: none such.");
        Edge.of("thrower", 0, 2, NONE, t -> x.joined(t, true, 1, 0));
        Edge.of("n", 1, 5, NONE, n -> x.joined(0, true, n, 0));
        Edge.of("n behind misses", 1, 5, NONE, n -> x.joined(0, false, n, 1));
        Edge.of("what", 0, 1, NONE, what -> x.joined(0, true, 1, what));
    }
}
