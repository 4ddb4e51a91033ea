import java.util.function.Consumer;

/** Edges of what is left, of odds, of years, of what is kept, and of counts (promises 25 to 33). */
final class LeftEdges extends Edges {
    private static final String SEVEN = "g60,0,0;g60,0,0;g60,0,0;g60,0,0;g60,0,0;g60,0,0;g60,0,0;";

    private LeftEdges() {
    }

    static void run() {
        leftNumbers();
        sixLeft();
        swept();
        sleptByThen();
        sleptJustAsMuch();
        waysOfNone();
        waysNoTwoOfOne();
        sureOrNone();
        foundNumbers();
        foundNights();
        yearNumbers();
        yearDraws();
        yearFeasts();
        twoKept();
        nothingKept();
        backAsKept();
        backUndoesNothing();
        countNumbers();
        countAtLeastAndMost();
    }

    private static void leave(BedsThatFit x, int times, int h) {
        for (int k = 0; k < times; k++) {
            x.left(0, 0, h);
        }
    }

    private static void leftNumbers() {
        says(25, "in BED b on night n somebody was harmed by h (0 to 99)");
        numbers("left", 0, LAST_BED, 0, 29, 0, 99);
        BedsThatFit x = inn("b60;b70;g60,0,0;g60,9,4;");
        due("the least of all", x.left(0, 0, 0), 1);
        due("the most of all", x.left(1, 29, 99), 2);
        due("the bed it was", x.left(1, 0, 10), 3);
        due("the night it was", x.left(0, 29, 20), 4);
        due("by 0", x.slept(0), 1);
        due("by 99", x.slept(1), 0);
        due("in bed 1", x.slept(2), 1);
        due("on night 29", x.slept(3), 2);
        dueCounts(x, 2, 2, 0, 0, 1, 4, 0, 0, 24);
    }

    private static void sixLeft() {
        says(25, "LEFT: how many. BAD; FULL.");
        BedsThatFit x = new BedsThatFit();
        for (int k = 1; k <= 6; k++) {
            due("one more", x.left(0, 0, 0), k);
            due("counted", x.count(5), k);
        }
        due("the seventh", x.left(0, 0, 0), FULL);
        due("six still", x.count(5), 6);
        refused(House.CROWDED, FULL, "left", 0, 0, 0);
        refused(House.CROWDED, FULL, "left", 3, 29, 99);
        refused(House.CROWDED, BAD, "left", 0, 0, 100);
        refused(House.CROWDED, BAD, "left", 4, 0, 0);
        refused(House.CROWDED, BAD, "left", 0, 30, 0);
    }

    private static void swept() {
        says(26, "Nothing is LEFT: how many were.");
        due("none", new BedsThatFit().sweep(), 0);
        changesNothing(House.NEW, "sweep");
        for (int k = 1; k <= 6; k++) {
            BedsThatFit x = new BedsThatFit();
            leave(x, k, 0);
            due(k + " were", x.sweep(), k);
            due("none now", x.count(5), 0);
            due("none to ask for", x.slept(0), BAD);
            due("none to be sure of", x.sure(0), BAD);
            due("one way", x.sure(-1), 1);
            due("none again", x.sweep(), 0);
            due("room again", x.left(0, 0, 0), 1);
        }
        BedsThatFit x = made(House.CROWDED);
        due("six were", x.sweep(), 6);
        dueCounts(x, 4, 7, 4, 4, 1, 0, 8, 2, 200);
        leave(x, 6, 0);
        due("six again, no more", x.left(0, 0, 0), FULL);
    }

    private static void sleptByThen() {
        says(27, "the GUESTS (bits) who have come by that night");
        numbers("slept", 0, LAST_LEFT);
        changesNothingAnywhere("slept", 0);
        BedsThatFit x = inn("b60;g60,0,0;g60,1,0;g60,8,0;g60,9,0;");
        int[] nights = {0, 1, 7, 8, 9, 29};
        int[] want = {1, 3, 3, 7, 15, 15};
        for (int k = 0; k < nights.length; k++) {
            x.left(0, nights[k], 0);
            due("by night " + nights[k], x.slept(k), want[k]);
        }
        x.come(3, 8);
        due("once he comes by then", x.slept(3), 15);
        due("not ahead of it", x.slept(2), 3);
    }

    private static void sleptJustAsMuch() {
        says(27, "whose HARM in that BED then would be just as much");
        BedsThatFit x = inn("b60;f1,1;g62,0,0;g63,0,0;g64,0,0;g57,0,0;g60,0,4;");
        x.left(0, 0, 3);
        x.left(0, 0, 2);
        x.left(0, 1, 2);
        x.left(0, 0, 99);
        x.left(0, 3, 3);
        due("3", x.slept(0), 2 + 8);
        due("2", x.slept(1), 1);
        due("2 at the feast", x.slept(2), 2);
        due("nobody", x.slept(3), 0);
        due("one has grown", x.slept(4), 2 + 8 + 16);
        due("behind the last", x.slept(5), BAD);
        BedsThatFit all = inn("b60;" + SEVEN);
        all.left(0, 0, 0);
        due("all seven", all.slept(0), 127);
    }

    private static void waysOfNone() {
        says(28, "WAYS (k = -1), SURE of a LEFT one (NONE). BAD.");
        numbers("sure", -1, LAST_LEFT);
        changesNothingAnywhere("sure", -1);
        changesNothingAnywhere("sure", 0);
        BedsThatFit x = inn("b60;g60,0,0;");
        due("nothing left", x.sure(-1), 1);
        due("none to be sure of", x.sure(0), BAD);
        x.left(0, 0, 1);
        due("nobody", x.sure(-1), 0);
        due("nobody", x.sure(0), NONE);
        due("behind the last", x.sure(1), BAD);
    }

    private static void waysNoTwoOfOne() {
        says(28, "in how many ways all that is LEFT can be of GUESTS, no two of one");
        int[] ways = {7, 42, 210, 840, 2520, 5040};
        BedsThatFit x = inn("b60;" + SEVEN);
        for (int k = 0; k < 6; k++) {
            x.left(0, 0, 0);
            due(k + 1 + " of seven", x.sure(-1), ways[k]);
        }
        BedsThatFit five = inn("b60;g60,0,0;g60,0,0;g60,0,0;g60,0,0;g60,0,0;");
        leave(five, 5, 0);
        due("five of five", five.sure(-1), 120);
        leave(five, 1, 0);
        due("six of five", five.sure(-1), 0);
        due("none sure then", five.sure(5), NONE);
    }

    private static void sureOrNone() {
        says(28, "the GUEST of whom it is in each of these; none");
        BedsThatFit x = inn("b60;g60,0,0;g62,0,0;g58,0,0;g63,0,0;g57,1,0;g60,1,0;g69,0,0;");
        x.left(0, 0, 2);
        due("of two", x.sure(0), NONE);
        BedsThatFit one = inn("b60;g61,0,0;g60,0,0;");
        one.left(0, 0, 0);
        due("one way", one.sure(-1), 1);
        due("of whom it is in that one", one.sure(0), 1);
        one.left(0, 0, 1);
        due("one way still", one.sure(-1), 1);
        due("the first guest", one.sure(1), 0);
        x.left(0, 0, 0);
        due("of one, the first guest", x.sure(1), 0);
        due("two ways", x.sure(-1), 2);
        x.left(0, 1, 0);
        due("the other one, since 0 is taken", x.sure(2), 5);
        x.left(0, 0, 9);
        due("the last guest", x.sure(3), 6);
        x.left(0, 0, 2);
        due("two of two, either way round", x.sure(-1), 2);
        due("not sure", x.sure(0), NONE);
        x.left(0, 1, 3);
        due("3 and 4", x.sure(-1), 4);
        due("neither is sure", x.sure(5), NONE);
        due("sure still", x.sure(3), 6);
    }

    private static void foundNumbers() {
        says(29, "by 1000 less 10 times x (0 to 10) times the inches he WEARS (less ones, too) of a thousand");
        numbers("found", 0, LAST_GUEST, 0, 10);
        changesNothingAnywhere("found", 0, 10);
        for (int worn = 0; worn <= 9; worn++) {
            BedsThatFit x = inn("b60;g60,0,0;");
            x.wear(0, worn);
            BedsThatFit less = inn("b60;g60,0,0;");
            less.wear(0, -worn);
            for (int times = 0; times <= 10; times++) {
                due(worn + " worn, x " + times, x.found(0, times), 1000 - 10 * times * worn);
                due(worn + " less worn, x " + times, less.found(0, times), 1000 - 10 * times * worn);
            }
        }
    }

    private static void foundNights() {
        says(29, "(from that on which he comes to that on which he LIES, to night 29, if he does not)");
        BedsThatFit x = inn("b60;" + SEVEN + "k0;");
        int[] most = {100, 10, 1, 0, 0, 0, 0};
        for (int i = 0; i < 7; i++) {
            x.wear(i, 9);
            due("so many nights: " + (i + 1), x.found(i, 10), most[i]);
        }
        x.come(2, 2);
        due("one night, once he comes on it", x.found(2, 10), 100);
        x.come(2, 9);
        due("one night, the last to come on", x.found(2, 10), 100);
        says(29, "(1000, then with each night times that by 1000, cut)");
        int[] cut = {790, 624, 492, 388, 306, 241, 190};
        BedsThatFit y = inn("b60;" + SEVEN + "k0;");
        for (int i = 0; i < 7; i++) {
            y.wear(i, -3);
            due("cut each night: " + (i + 1), y.found(i, 7), cut[i]);
        }
    }

    private static void yearNumbers() {
        says(30, "A YEAR: ALL (what = 0), how many without HARM (1). BAD.");
        numbers("year", 0, 9999, 0, 1);
        changesNothingAnywhere("year", 0, 0);
        changesNothingAnywhere("year", 9999, 1);
    }

    /** How much longer four beds are on nights 0 to 9: reckoned apart from any program of this project. */
    private static void dueDraws(int z, int[]... longer) {
        for (int n = 0; n <= 9; n++) {
            BedsThatFit x = inn("b60;b60;b60;b60;g60,0,0;g60,0,0;g60,0,0;g60,0,0;k0;");
            int harm = 0;
            int without = 0;
            for (int b = 0; b < 4; b++) {
                x.come(b, n);
                harm += Math.abs(longer[b][n]);
                without += longer[b][n] == 0 ? 1 : 0;
            }
            due("ALL of year " + z + ", night " + n, x.year(z, 0), harm);
            due("without harm", x.year(z, 1), without);
            for (int b = 0; b < 4; b++) {
                x.wear(b, longer[b][n]);
            }
            due("ALL, as long as the beds", x.year(z, 0), 0);
            due("all without harm", x.year(z, 1), 4);
        }
    }

    private static void yearDraws() {
        says(30, "BED b is longer on night n by DRAW modulo 7, less 3, DRAW being (q times q) modulo 65521");
        dueDraws(0, new int[] {-2, 2, -1, -2, -2, -2, 0, 3, 0, -1}, new int[] {-1, 0, 1, -3, 1, -2, -3, -3, -1, 1},
            new int[] {-3, 1, 0, 0, 0, 2, -2, 2, 0, 0}, new int[] {-2, 0, 2, -1, -3, 3, 3, -3, -1, 2});
        dueDraws(1, new int[] {1, 1, 1, 3, -1, 3, 1, 0, 0, 2}, new int[] {-3, 0, -2, -3, 3, -3, 0, 3, 0, -1},
            new int[] {3, 3, -2, 1, -2, 3, 2, 2, -3, -1}, new int[] {-2, 3, 2, 2, 3, -2, 1, -2, -3, 3});
        dueDraws(9998, new int[] {2, -1, 3, 1, 1, 1, 3, -1, 2, 0}, new int[] {-3, -3, -2, 1, -3, 2, 0, 0, 1, 3},
            new int[] {2, -1, -3, -3, -3, -1, 2, -1, -3, 3}, new int[] {-3, -2, 0, -3, 1, 0, 0, 1, 3, -1});
        dueDraws(9999, new int[] {-3, 3, 3, -2, 1, -3, 2, 1, 1, 2}, new int[] {0, 3, 0, -1, -1, -1, 1, -3, 1, 0},
            new int[] {-1, 0, 1, -3, 0, -2, -3, -3, -2, 1}, new int[] {3, 0, -1, -2, -1, 1, -3, 1, -1, -2});
    }

    private static void yearFeasts() {
        says(30, "(feasts as well)");
        due("longer by 5, shorter by 2", inn("b60;f0,5;g63,0,0;").year(0, 0), 0);
        due("without harm", inn("b60;f0,5;g63,0,0;").year(0, 1), 1);
        due("longer by 9, longer by 2", inn("b60;f1,9;g71,1,0;").year(0, 0), 0);
        due("another night's feast", inn("b60;f2,9;g62,1,0;").year(0, 0), 0);
    }

    private static void twoKept() {
        says(31, "KEPT are THE ROW, what is WORN, nights on which they come: 2 at most.");
        BedsThatFit x = new BedsThatFit();
        due("one", x.keep(), 1);
        due("two", x.keep(), 2);
        due("no third one", x.keep(), FULL);
        due("two still", x.count(7), 2);
        due("back to one", x.back(), 1);
        due("room again", x.keep(), 2);
        due("and no more", x.keep(), FULL);
        says(31, "KEPT: how many. FULL.");
        refused(House.CROWDED, FULL, "keep");
        refused(y -> {
            y.keep();
            y.wear(0, 1);
            y.keep();
            y.wear(0, 2);
        }, FULL, "keep");
        BedsThatFit z = new BedsThatFit();
        z.wear(0, 1);
        z.keep();
        dueCounts(z, 2, 3, 0, 0, 1, 0, 1, 1, 0);
        due("what was worn can be undone", z.undo(), 0);
        due("not what is kept", z.count(7), 1);
    }

    private static void nothingKept() {
        says(32, "As KEPT last: how many are left; nothing is UNDONE then. NO.");
        Consumer<BedsThatFit> changed = x -> {
            x.wear(0, 3);
            x.move(0, 2);
            x.come(1, 4);
            x.left(0, 0, 0);
        };
        refused(House.NEW, NO, "back");
        refused(changed, NO, "back");
        refused(x -> {
            x.keep();
            x.back();
            changed.accept(x);
        }, NO, "back");
        refused(x -> {
            x.keep();
            put(x, "b60;g60,0,0;g60,0,0;g60,0,0;");
            x.lay();
            changed.accept(x);
        }, NO, "back");
    }

    private static void backAsKept() {
        says(32, "KEPT are THE ROW, what is WORN, nights on which they come");
        BedsThatFit x = new BedsThatFit();
        x.move(2, 0);
        x.wear(1, 9);
        x.come(0, 9);
        x.keep();
        x.move(1, 0);
        x.wear(1, -9);
        x.come(0, 1);
        x.keep();
        x.move(0, 0);
        x.wear(1, 0);
        x.come(0, 0);
        due("the last one first", x.back(), 1);
        dueRow(x, 1, 2, 0);
        due("worn", x.guest(1, 3), 91);
        due("comes", x.guest(0, 1), 1);
        x.move(0, 0);
        x.wear(2, 5);
        due("the first one last", x.back(), 0);
        dueRow(x, 2, 0, 1);
        due("worn", x.guest(1, 3), 109);
        due("comes", x.guest(0, 1), 9);
        due("not worn any more", x.guest(2, 3), 100);
        due("no more", x.back(), NO);
        due("as it was", x.guest(1, 3), 109);
    }

    private static void backUndoesNothing() {
        says(32, "nothing is UNDONE then");
        BedsThatFit x = made(House.CROWDED);
        due("one is left", x.back(), 1);
        dueCounts(x, 4, 7, 4, 4, 1, 6, 0, 1, 200);
        due("nothing to undo", x.undo(), NO);
        x.wear(0, 5);
        due("a change since", x.undo(), 0);
        due("none is left", x.back(), 0);
        dueCounts(x, 4, 7, 4, 4, 1, 6, 0, 0, 200);
        due("worn as kept", x.guest(0, 3), 97);
        due("comes as kept", x.guest(3, 1), 0);
        dueRow(x, 0, 1, 2, 3, 4, 5, 6);
    }

    private static void countNumbers() {
        says(33, "How many: 0 BEDS, 1 GUESTS, 2 feasts told, 3 beds of the RIVAL, 4 the KIND of LAW, 5 LEFT ones, "
            + "6 that can be UNDONE, 7 KEPT, 8 letters of THE TEXT. BAD.");
        numbers("count", 0, 8);
        changesNothingAnywhere("count", 0);
    }

    private static void countAtLeastAndMost() {
        says(33, "2 feasts told");
        dueCounts(inn("b60;g60,0,0;k0;"), 1, 1, 0, 0, 0, 0, 0, 0, 15);
        dueCounts(inn("b60;b60;f1,0;f1,0;g60,0,0;g60,0,0;g60,0,0;r50;r50;r50;k2;"), 2, 3, 2, 3, 2, 0, 0, 0, 57);
        dueCounts(made(House.CROWDED), 4, 7, 4, 4, 1, 6, 8, 2, 200);
    }
}
