/** The terms about texts: what a LAW and a BELIEF may be, and where their FAULT is. */
final class AtLaws {
    private static final int NONE = HotHand.NONE;
    private static final String NOTS = "not not not not not not not not ";

    private AtLaws() {
    }

    static void run() {
        rules();
        conditions();
        words();
        numbers();
        tokens();
        open();
        faultPlaces();
        faultLimits();
        belief();
    }

    /** A text that is a LAW of so many RULES. */
    private static void isLaw(String text, int rules) {
        HotHand x = Due.with(1);
        Due.due("law of '" + text + "'", Due.law(x, 0, text), rules);
        Due.due("fault of '" + text + "'", x.fault(), NONE);
    }

    /** A text that is none, and the place of its FAULT. */
    private static void isNone(String text, int place) {
        HotHand x = Due.with(1);
        Due.due("law of '" + text + "'", Due.law(x, 0, text), NONE);
        Due.due("fault of '" + text + "'", x.fault(), place);
    }

    private static void rules() {
        Doc.at(Doc.TERMS, "A LAW of a THROWER is a text: {(\"hit\" | \"hard\" | \"guard\" | \"state\") NUMBER [\"if\" ANY] \";\""
                + " | (\"harder\" | \"guarded\") NUMBER \";\"}, at most 24 RULES.");
        isLaw("", 0);
        isLaw(" \n ", 0);
        for (String word : new String[] {"hit", "hard", "guard", "state"}) {
            isLaw(word + " 1;", 1);
            isLaw(word + " 1 if run > 1;", 1);
            isNone(word + ";", word.length());
            isNone(word + " if run > 1;", word.length() + 1);
            isNone(word + " 1 run > 1;", word.length() + 3);
            isNone(word + " 1 if;", word.length() + 5);
            isNone(word + " 1", word.length() + 2);
        }
        for (String word : new String[] {"harder", "guarded"}) {
            isLaw(word + " 1;", 1);
            isNone(word + " 1 if run > 1;", word.length() + 3);
            isNone(word + ";", word.length());
        }
        for (String word : new String[] {"run", "miss", "pass", "place", "hits", "if", "not", "x", "harde", "guardedd", ";"}) {
            isNone(word + " 1;", 0);
        }
        String six = "hit 1;hard 1;guard 1;state 1;harder 1;guarded 1;";
        isLaw(six.repeat(4), 24);
        isNone(six.repeat(4) + "hit 1;", six.length() * 4);
    }

    /** Whether a condition holds ahead of a row's third THROW, behind H and M, asked by "hit". */
    private static void asks(String condition, boolean due) {
        HotHand x = Due.with(1);
        Due.row(x, 0, "HM");
        x.thrown(0, true, 2, 3);
        Due.due("law", Due.law(x, 0, "hit 1 if " + condition + "; hit 0;"), 2);
        Due.due("whether " + condition, x.told(0, 2, 4), due ? 1 : 0);
    }

    private static void conditions() {
        Doc.at(Doc.TERMS, "ANY: ALL {\"or\" ALL}. ALL: ONE {\"and\" ONE}. ONE: \"not\" ONE | \"(\" ANY \")\""
                + " | WORD (\"<\" | \">\" | \"=\") NUMBER.");
        String yes = "place = 2";
        String no = "place = 3";
        asks(yes, true);
        asks(no, false);
        asks("place < 2", false);
        asks("place < 3", true);
        asks("place > 2", false);
        asks("place > 1", true);
        asks("place = 1", false);
        // "and" binds ahead of "or", "not" ahead of both.
        asks(yes + " or " + yes + " and " + no, true);
        asks("(" + yes + " or " + yes + ") and " + no, false);
        asks(no + " and " + yes + " or " + yes, true);
        asks(no + " and (" + yes + " or " + yes + ")", false);
        asks("not " + no + " or " + yes, true);
        asks("not (" + no + " or " + yes + ")", false);
        asks("not " + no + " and " + no, false);
        asks("not (" + no + " and " + no + ")", true);
        asks("not not " + yes, true);
        asks("not not not " + yes, false);
        asks(no + " or " + no + " or " + yes, true);
        asks(no + " or " + no + " or " + no, false);
        asks(yes + " and " + yes + " and " + yes, true);
        asks(yes + " and " + yes + " and " + no, false);
        asks(no + " or " + yes + " and " + yes + " or " + no, true);
        isNone("hit 1 if or run > 1;", 9);
        isNone("hit 1 if run > 1 or;", 19);
        isNone("hit 1 if run > 1 and or run > 1;", 21);
        isNone("hit 1 if run > 1 and;", 20);
        isNone("hit 1 if (run > 1 and);", 21);
        isNone("hit 1 if (run > 1 or);", 20);
        isNone("hit 1 if not;", 12);
        isNone("hit 1 if (not);", 13);
        isNone("hit 1 if not and run > 1;", 13);
        isNone("hit 1 if run;", 12);
        isNone("hit 1 if (run);", 13);
        isNone("hit 1 if run >;", 14);
        isNone("hit 1 if run > 1 not run > 1;", 17);
        isNone("hit 1 if (run > 1;", 17);
        isNone("hit 1 if run > 1);", 16);
        isNone("hit 1 if ();", 10);
        isNone("hit 1 if run 1;", 13);
        isNone("hit 1 if run > ;", 15);
        isNone("hit 1 if run > run;", 15);
        isNone("hit 1 if 1 < run;", 9);
        isNone("hit 1 if run <> 1;", 14);
        isNone("hit 1 if run == 1;", 14);
        isNone("hit 1 if run ! 1;", 13);
    }

    private static void words() {
        Doc.at(Doc.TERMS, "WORD: run, miss, state, place, hard, guard, hits.");
        for (String word : new String[] {"run", "miss", "state", "place", "hard", "guard", "hits"}) {
            isLaw("hit 1 if " + word + " = 1;", 1);
            isNone("hit 1 if " + word + "s = 1;", 9);
            isNone("hit 1 if " + word.substring(1) + " = 1;", 9);
        }
        for (String word : new String[] {"hit", "harder", "guarded", "if", "and", "or", "share", "runs", "pass"}) {
            isNone("hit 1 if " + word + " = 1;", 9);
        }
    }

    private static void numbers() {
        Doc.at(Doc.TERMS, "NUMBER: of \"hit\" 0 to 100, of \"hard\", \"guard\" 0 to 3, of \"state\" 0 to 9, else 0 to 99;");
        String[] words = {"hit", "hard", "guard", "state", "harder", "guarded"};
        int[] most = {100, 3, 3, 9, 99, 99};
        for (int i = 0; i < words.length; i++) {
            isLaw(words[i] + " 0;", 1);
            isLaw(words[i] + " " + most[i] + ";", 1);
            isNone(words[i] + " " + (most[i] + 1) + ";", words[i].length() + 1);
            isNone(words[i] + " 999;", words[i].length() + 1);
            isNone(words[i] + " -1;", words[i].length() + 1);
        }
        for (String word : new String[] {"run", "miss", "place", "hits"}) {
            isLaw("hit 1 if " + word + " < 0;", 1);
            isLaw("hit 1 if " + word + " < 99;", 1);
            isNone("hit 1 if " + word + " < 100;", 12 + word.length());
        }
        Doc.at(Doc.TERMS, "each of one to three digits.");
        isLaw("hit 7;hit 07;hit 007;hit 100;hit 000;", 5);
        isLaw("hit 1 if run > 009;", 1);
        isNone("hit 0007;", 4);
        isNone("hit 1000;", 4);
        isNone("hard 0003;", 5);
        isNone("hit 1 if run > 0009;", 15);
        isNone("hit 4294967297;", 4);
    }

    private static void tokens() {
        Doc.at(Doc.TERMS, "Tokens as long as they go: words of letters a to z, digits, signs;"
                + " between them blanks (bytes 32 and 10).");
        isLaw("hit1;hit1if run>1and not(run<2)or miss=3;", 2);
        isLaw("\n\nhit\n1\nif\nrun\n>\n1\n;\n", 1);
        isLaw("  hit  1  if  run  >  1  ;  ", 1);
        isNone("hitif 1;", 0);
        isNone("hi t 1;", 0);
        isNone("hard er 1;", 5);
        isNone("hit 1 0;", 6);
        isNone("hit 1 ifrun > 1;", 6);
        isNone("hit 1 if run > 1andrun > 1;", 16);
        isNone("hit 1 if notrun > 1;", 9);
        isNone("hit 1x;", 5);
        isNone("hitx1;", 0);
        isNone("hita 1;", 0);
        isNone("hitz 1;", 0);
        // The last byte of a text ends its token, whatever lies behind it on the tape.
        HotHand x = Due.with(1);
        Due.feed(x, "hit 100;");
        Due.due("a number cut by the text's end", x.law(0, 6), NONE);
        Due.due("its fault", x.fault(), 6);
        Due.feed(x, "hit 1;hits");
        Due.due("a word cut by the text's end", x.law(0, 9), NONE);
        Due.due("its fault", x.fault(), 9);
        // Each byte but these two is a token that no RULE begins with, or begins none.
        for (int sign = 0; sign < 256; sign++) {
            if (sign == 32 || sign == 10) {
                isLaw("hit 1; " + (char) sign, 1);
            } else {
                isNone("hit 1; " + (char) sign, 7);
            }
        }
        // Just beside a to z and 0 to 9, and blanks that are none.
        for (int sign : new int[] {'a' - 1, 'z' + 1, 'A', 'Z', '0' - 1, '9' + 1, 9, 11, 13, 31, 33, 0, 127, 128, 160, 255}) {
            isNone("hit" + (char) sign + " 1;", 3);
            isNone("hit 1" + (char) sign + ";", 5);
        }
    }

    private static void open() {
        Doc.at(Doc.TERMS, "\"not\" and \"(\": at most 8 open in one another.");
        isLaw("hit 1 if " + NOTS + "run > 1;", 1);
        isNone("hit 1 if " + NOTS + "not run > 1;", 9 + NOTS.length());
        isNone("hit 1 if " + NOTS + "(run > 1);", 9 + NOTS.length());
        isLaw("hit 1 if ((((((((run > 1))))))));", 1);
        isNone("hit 1 if (((((((((run > 1)))))))));", 17);
        isNone("hit 1 if ((((((((not run > 1))))))));", 17);
        isLaw("hit 1 if not(not(not(not(run > 1))));", 1);
        isNone("hit 1 if not(not(not(not(not run > 1))));", 25);
        // What is closed is open no more: each of these has 8 at most.
        isLaw("hit 1 if " + NOTS + "run > 1 and " + NOTS + "run > 1 or " + NOTS + "run > 1;", 1);
        isLaw("hit 1 if (((((((run > 1 and (run > 1)) or (run > 1))))))) and ((((((((run > 1))))))));", 1);
        isNone("hit 1 if (((((((run > 1 and ((run > 1)))))))));", 29);
        isLaw("hit 1 if not run > 1 and not run > 1 and not run > 1 and not run > 1 and not run > 1 and not run > 1"
                + " and not run > 1 and not run > 1 and not run > 1;", 1);
        isLaw("hit 1 if " + NOTS + "run > 1;hit 1 if " + NOTS + "run > 1;", 2);
    }

    private static void faultPlaces() {
        Doc.at(Doc.TERMS, "FAULT: the place of the first byte of the first token (or byte that begins none)"
                + " with which no such text goes on");
        isNone("x", 0);
        isNone("  harden 1;", 2);
        isNone("hit hit 1;", 4);
        isNone("hit 1 hard 2;", 6);
        isNone("hit 1;;hit 1;", 6);
        isNone("hit 1; ? hit", 7);
        isNone("hit 1; " + (char) 255, 7);
        isNone("hit " + (char) 0 + "1;", 4);
        // The first of several.
        isNone("hit 101; hit 102;", 4);
        isNone("hit 1; foo ?", 7);
        // A byte that begins none ends the token ahead of it.
        isNone("hit 1?;", 5);
        // As many tokens as there can be.
        isNone(";".repeat(600), 0);
        isNone("?".repeat(600), 0);
        Doc.at(Doc.TERMS, "(a number that isn't so, the ninth open, too);");
        isNone("hit   101;", 6);
        isNone("state 10", 6);
        isNone("hit 1 if run > 100", 15);
        isNone("hit 1 if " + NOTS + "(", 9 + NOTS.length());
        isNone("hit 1 if (((((((((", 17);
    }

    private static void faultLimits() {
        Doc.at(Doc.TERMS, "the text's length, if more must come;");
        isNone("hit", 3);
        isNone("hit ", 4);
        isNone("hit 1", 5);
        isNone("hit 1 if", 8);
        isNone("hit 1 if not", 12);
        isNone("hit 1 if (", 10);
        isNone("hit 1 if run", 12);
        isNone("hit 1 if run >", 14);
        isNone("hit 1 if run > 1", 16);
        isNone("hit 1 if run > 1 and", 20);
        isNone("hit 1 if run > 1 or\n\n", 21);
        isNone("hit 1 if (run > 1", 17);
        isNone("harder", 6);
        isNone("harder 9", 8);
        isNone(" ".repeat(597) + "hit", 600);
        isNone("hit" + " ".repeat(597), 600);
        // A full tape's last byte is a word's or a number's.
        isNone(" ".repeat(595) + "guard", 600);
        isNone(" ".repeat(595) + "hit 9", 600);
        Doc.at(Doc.TERMS, "the 25th RULE: where it begins.");
        isLaw("hit 1;".repeat(24) + "  ", 24);
        isNone("hit 1;".repeat(25), 144);
        isNone("hit 1;".repeat(24) + " \n harder 1;", 147);
        isNone("hit 1;".repeat(24) + " hit", 145);
        isNone("hit 1;".repeat(24) + " hit 101;", 145);
        isNone("hit 1;".repeat(23) + "hit 101;hit 1;", 142);
        isNone("harder 1;".repeat(25), 216);
    }

    private static void isBelief(String text, int statements) {
        HotHand x = new HotHand();
        Due.due("belief of '" + text + "'", Due.belief(x, 3, text), statements);
        Due.due("fault of '" + text + "'", x.fault(), NONE);
        Due.due("statements", x.count(33), statements);
    }

    private static void isNoBelief(String text, int place) {
        HotHand x = new HotHand();
        Due.due("belief of '" + text + "'", Due.belief(x, 3, text), NONE);
        Due.due("fault of '" + text + "'", x.fault(), place);
    }

    private static void belief() {
        Doc.at(Doc.TERMS, "A BELIEF of a WATCHER (0 to 3) is likewise: {(\"hit\" | \"miss\" | \"pass\") [\"if\" ANY] \";\"},"
                + " at most 24.");
        isBelief("", 0);
        for (String word : new String[] {"hit", "miss", "pass"}) {
            isBelief(word + ";", 1);
            isBelief(word + " if run > 1 or not (state = 2 and guard < 3);", 1);
            isNoBelief(word, word.length());
            isNoBelief(word + " 1;", word.length() + 1);
            isNoBelief(word + " if;", word.length() + 3);
            isNoBelief(word + " run > 1;", word.length() + 1);
        }
        for (String word : new String[] {"hard", "guard", "state", "harder", "guarded", "run", "hits", "not", "(", "0"}) {
            isNoBelief(word + ";", 0);
        }
        isBelief("hit;miss;pass;".repeat(8), 24);
        isNoBelief("hit;miss;pass;".repeat(8) + " pass;", 113);
        isNoBelief("hit;".repeat(24) + "\n\n?", 98);
        isBelief("hit if run > 99;", 1);
        isNoBelief("hit if run > 100;", 13);
        isBelief("hit if " + NOTS + "run > 1;", 1);
        isNoBelief("hit if " + NOTS + "not run > 1;", 7 + NOTS.length());
        isNoBelief("hit if (run > 1", 15);
    }
}
