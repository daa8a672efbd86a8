/** Promises 41, 42, 43: images, back, counts; and how often an object is used. */
final class AtImages {
    private static final int NONE = HotHand.NONE;

    private AtImages() {
    }

    static void run() {
        images();
        image();
        back();
        backOfLast();
        backRefused();
        counts();
        countsOfTexts();
        countsOfOthers();
        asking();
        calls();
    }

    /** Two throwers, a row of 3, a law, a belief, a measure, z 7, bytes on the tape, a fault at 0, and so many images. */
    private static HotHand used(int images) {
        HotHand x = Due.with(2);
        Due.law(x, 0, "hit 40; state 1 if run > 0;");
        Due.belief(x, 0, "hit;");
        Due.measure(x, "hits");
        x.row(1);
        x.thrown(0, true, 3, 1);
        x.thrown(0, false, 2, 2);
        x.thrown(0, true, 1, 3);
        x.seed(7);
        Due.law(x, 0, "?");
        Due.feed(x, "hit 20;");
        for (int i = 0; i < images; i++) {
            x.image();
            x.thrown(0, i % 2 == 0, 0, 0);
            x.row(0);
            x.deal(i + 1, i + 1);
        }
        return x;
    }

    private static void images() {
        Doc.at(Doc.TERMS, "IMAGES, up to 3: THROWERS, ROWS, THROWS, z (all else stays: texts by numbers, the tape).");
        Due.due("the third", used(2).image(), 2);
        Due.due("a fourth", used(3).image(), NONE);
        HotHand x = used(1);
        x.thrower();
        x.belief(1, 0);
        Due.law(x, 2, "hit 77;");
        Due.law(x, 0, "hit 66; hit 1;");
        Due.belief(x, 3, "miss; hit;");
        Due.measure(x, "runs");
        Due.measure(x, "run");
        x.feed(0, 0, 0, 0, 0);
        x.seed(8);
        Due.due("back", x.back(0), true);
        Due.due("throwers", x.count(0), 2);
        Due.due("rows", x.count(1), 1);
        Due.due("throws", x.count(2), 3);
        Due.due("hits", x.count(3), 2);
        int[][] due = {{1, 3, 1}, {0, 2, 2}, {1, 1, 3}};
        for (int k = 0; k < 3; k++) {
            for (int what = 0; what <= 2; what++) {
                Due.due("told(0, " + k + ", " + what + ")", x.told(0, k, what), due[k][what]);
            }
        }
        Due.due("whose row it is", x.told(0, NONE, 0), 1);
        Due.due("laws stay", x.count(10), 2);
        Due.due("the law of a number without a thrower stays", x.count(12), 1);
        Due.due("beliefs stay", x.count(33), 2);
        Due.due("measures stay", x.count(4), 2);
        Due.due("a measure is of the same number", x.value(0, 1, 0), 3);
        Due.due("the tape stays", x.count(6), 20);
        Due.due("the fault stays", x.fault(), 0);
        Due.due("images stay", x.count(5), 1);
        Due.due("the thrower comes again", x.thrower(), 2);
        Due.due("its row", x.row(2), 1);
        Due.due("its law", x.next(1, 2), 77);
        x.row(0);
        AtDraws.dueDraws(x, 2, 7);
    }

    private static void image() {
        Doc.at(41, "An IMAGE: its number.");
        HotHand x = new HotHand();
        Due.due("the first", x.image(), 0);
        Due.due("the second", x.image(), 1);
        Due.due("the third", x.image(), 2);
        Doc.at(41, "NONE: 3 are there.");
        Due.due("a fourth", x.image(), NONE);
        Due.due("images", x.count(5), 3);
        x.thrower();
        x.image();
        x.back(2);
        Due.due("the third is as it was", x.count(0), 0);
        Edge.leaves("a fourth", () -> used(3), NONE, HotHand::image);
    }

    private static void back() {
        Doc.at(42, "All is as in an IMAGE: true;");
        HotHand x = used(3);
        int[] rows = {1, 2, 3};
        int[] all = {3, 5, 8};
        for (int image : new int[] {2, 0, 1, 1, 2, 0}) {
            Due.due("back", x.back(image), true);
            Due.due("rows", x.count(1), rows[image]);
            Due.due("throws", x.count(2), all[image]);
            // What is thrown behind it doesn't change the image.
            x.thrown(0, true, 3, 3);
            x.row(1);
        }
        // A row anew has nothing of one that stood there.
        HotHand y = Due.with(2);
        y.image();
        y.row(1);
        for (int i = 0; i < 24; i++) {
            y.thrown(0, true, 3, 3);
        }
        y.back(0);
        Due.due("a row anew", y.row(0), 0);
        Due.due("its thrower", y.told(0, NONE, 0), 0);
        Due.due("its throws", y.told(0, NONE, 1), 0);
        Due.due("its hits", y.told(0, NONE, 2), 0);
        Due.due("a throw", y.thrown(0, false, 0, 0), 1);
        for (int what = 0; what <= 2; what++) {
            Due.due("nothing of what stood there", y.told(0, 0, what), 0);
        }
        Due.due("hits", y.count(3), 0);
        // A row's thrower, and how hard and guarded throws are, come back, too, behind others in its place.
        HotHand was = Due.with(2);
        was.image();
        was.row(1);
        was.thrown(0, true, 3, 1);
        was.thrown(0, false, 0, 2);
        was.image();
        was.back(0);
        was.row(0);
        was.thrown(0, false, 1, 3);
        was.thrown(0, true, 2, 0);
        was.back(1);
        Due.due("its thrower", was.told(0, NONE, 0), 1);
        int[][] due = {{1, 3, 1}, {0, 0, 2}};
        for (int k = 0; k < 2; k++) {
            for (int what = 0; what <= 2; what++) {
                Due.due("told(0, " + k + ", " + what + ")", was.told(0, k, what), due[k][what]);
            }
        }
        // To more than there is now.
        HotHand z = Due.with(0);
        z.image();
        for (int i = 0; i < 12; i++) {
            z.thrower();
        }
        for (int i = 0; i < 60; i++) {
            z.row(11);
        }
        z.image();
        z.back(0);
        Due.due("nothing", z.count(0) + z.count(1), 0);
        Due.due("forth", z.back(1), true);
        Due.due("throwers", z.count(0), 12);
        Due.due("rows", z.count(1), 60);
        Due.due("whose", z.told(59, NONE, 0), 11);
    }

    /** The last ROW that there can be goes and comes as all others do. */
    private static void backOfLast() {
        Doc.at(42, "All is as in an IMAGE: true;");
        HotHand x = Due.with(2);
        x.image();
        rowsOf(x, 1);
        x.thrown(59, true, 3, 2);
        x.thrown(59, false, 1, 3);
        x.image();
        x.thrown(59, true, 2, 1);
        x.back(1);
        dueLast(x, 1, new int[][] {{1, 3, 2}, {0, 1, 3}});
        x.back(0);
        rowsOf(x, 0);
        dueLast(x, 0, new int[][] {});
        x.thrown(59, false, 0, 0);
        dueLast(x, 0, new int[][] {{0, 0, 0}});
        x.back(1);
        dueLast(x, 1, new int[][] {{1, 3, 2}, {0, 1, 3}});
    }

    private static void rowsOf(HotHand x, int thrower) {
        for (int i = 0; i < 60; i++) {
            x.row(thrower);
        }
    }

    private static void dueLast(HotHand x, int thrower, int[][] due) {
        Due.due("the last row's thrower", x.told(59, NONE, 0), thrower);
        Due.due("its throws", x.told(59, NONE, 1), due.length);
        int hits = 0;
        for (int k = 0; k < due.length; k++) {
            for (int what = 0; what <= 2; what++) {
                Due.due("told(59, " + k + ", " + what + ")", x.told(59, k, what), due[k][what]);
            }
            hits += due[k][0];
        }
        Due.due("its hits", x.told(59, NONE, 2), hits);
    }

    private static void backRefused() {
        Doc.at(42, "false: none such.");
        Edge.of("image", 0, 2, 0, image -> used(3).back(image) ? 1 : 0);
        Due.due("no image", used(0).back(0), false);
        Due.due("one image", used(1).back(1), false);
        for (int image : new int[] {-1, 2, 3}) {
            Edge.leaves("back to " + image, () -> used(2), 0, x -> x.back(image) ? 1 : 0);
        }
    }

    private static void counts() {
        Doc.at(43, "0 THROWERS, 1 ROWS, 2 THROWS, 3 HITS, 4 MEASURES, 5 IMAGES, 6 bytes on the tape,");
        HotHand x = new HotHand();
        for (int what = 0; what <= 6; what++) {
            Due.due("of a new object, " + what, x.count(what), 0);
        }
        x = used(2);
        int[] due = {2, 3, 3 + 2 + 3, x.told(0, NONE, 2) + x.told(1, NONE, 2) + x.told(2, NONE, 2), 1, 2, 20};
        for (int what = 0; what <= 6; what++) {
            Due.due("count " + what, x.count(what), due[what]);
        }
        HotHand full = Due.with(12);
        Due.law(full, 11, "hit 100;");
        for (int i = 0; i < 60; i++) {
            full.row(11);
            full.deal(i, 24);
        }
        for (int i = 0; i < 12; i++) {
            Due.measure(full, "hits");
        }
        for (int i = 0; i < 4; i++) {
            full.image();
        }
        for (int i = 0; i < 31; i++) {
            full.feed(0, 0, 0, 0, 0);
        }
        int[] most = {12, 60, 1440, 1440, 12, 3, 600};
        for (int what = 0; what <= 6; what++) {
            Due.due("of a full object, " + what, full.count(what), most[what]);
        }
    }

    private static void countsOfTexts() {
        Doc.at(43, "10 + t RULES of THROWER t's LAW (told for that number),");
        HotHand x = new HotHand();
        x.image();
        for (int t = 0; t < 12; t++) {
            x.thrower();
            Due.law(x, t, "hit 1;".repeat(t));
        }
        for (int t = 0; t < 12; t++) {
            Due.due("rules of " + t, x.count(10 + t), t);
        }
        x.back(0);
        for (int t = 0; t < 12; t++) {
            Due.due("rules of number " + t, x.count(10 + t), t);
        }
        Doc.at(43, "30 + w statements of WATCHER w's BELIEF.");
        for (int w = 0; w < 4; w++) {
            Due.due("without a belief, " + w, x.count(30 + w), 0);
            Due.belief(x, w, "hit;".repeat(w + 21));
        }
        for (int w = 0; w < 4; w++) {
            Due.due("statements of " + w, x.count(30 + w), w + 21);
        }
    }

    private static void countsOfOthers() {
        Doc.at(43, "NONE for others.");
        HotHand x = used(1);
        for (int what = -3; what <= 50; what++) {
            boolean told = what >= 0 && what <= 6 || what >= 10 && what <= 21 || what >= 30 && what <= 33;
            Due.due("count " + what, x.count(what) != NONE, told);
        }
        Due.due("far below", x.count(Integer.MIN_VALUE), NONE);
        Due.due("far above", x.count(Integer.MAX_VALUE), NONE);
        Due.due("where 10 and a thrower wrap around", x.count(Integer.MIN_VALUE + 10), NONE);
    }

    /** Every call that tells something changes nothing, answered or not. */
    private static void asking() {
        Doc.at(43, "0 THROWERS, 1 ROWS, 2 THROWS, 3 HITS, 4 MEASURES, 5 IMAGES, 6 bytes on the tape,");
        Edge.leaves("all that asks", () -> used(2), 0, x -> {
            for (int v = -1; v <= 2; v++) {
                x.told(0, v, 3);
                x.next(v, 2);
                x.value(v, 0, 0);
                x.mean(v, 0, 0);
                x.joined(v, true, 1, 0);
                x.lean(v, 4, 5, 0);
                x.right(v, 0, 5, 0);
                x.shuffle(v, 0, 0);
                x.together(v, 0);
                x.streak(5, v);
                x.power(4, 5, v, 25, 1);
                x.need(5, v, 25, 50);
                x.strong(4, 5, 25, v);
                x.hards(v, 0, 0);
                x.off(v, 0);
                x.chosen(v, 0);
                x.hundredths(v);
                x.groups(v, 0);
                x.above(v);
                x.hidden(v, 5, 6, 4, 0);
                x.bets(0, v, 0);
                x.odds(0, v, 0);
                x.give(0, v, 4, 1, 1, 2);
                x.worlds(v, 24, 5, 0, 0);
                x.foretold(v, 0, 100, 0);
                x.heat(v, 0);
                x.pooled(v);
                x.season(0, v, true, 1, 0);
                x.say(v, 5, 25);
                x.count(v);
                x.fault();
            }
            return 0;
        });
    }

    private static void calls() {
        Doc.at(Doc.WHAT_IT_IS, "An object is used for at most 512 calls after it has been made;");
        HotHand x = new HotHand();
        Due.due("the first call", x.thrower(), 0);
        x.row(0);
        for (int call = 3; call <= 511; call++) {
            x.count(1);
        }
        Due.due("the 512th call", x.thrown(0, true, 0, 0), 1);
    }
}
