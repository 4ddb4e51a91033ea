/** Edges of what would be best (promises 16 to 24). */
final class BestEdges extends Edges {
    private static final String SEVEN = "g60,0,0;g60,0,0;g60,0,0;g60,0,0;g60,0,0;g60,0,0;g60,0,0;";

    private BestEdges() {
    }

    static void run() {
        orderNumbers();
        orderOfSeveral();
        orderFirstAndLast();
        orderAsThingsStand();
        cushionOfOne();
        cushionOfSeveral();
        lengthNumbers();
        lengthOfSeveral();
        lawOfSeveral();
        lawAlone();
        pairsOrNone();
        pairsBothLess();
        pairsFirst();
        laterNights();
        laterOfSeveral();
        rivalLess();
        rivalAsTheyCome();
        fewestBeds();
        turnedBeds();
    }

    private static void dueOrder(BedsThatFit x, int sum, int... row) {
        due("order(-1)", x.order(-1), sum);
        for (int p = 0; p < row.length; p++) {
            due("order(" + p + ")", x.order(p), row[p]);
        }
        due("behind the last place", x.order(row.length), BAD);
    }

    private static void orderNumbers() {
        says(16, "ORDER: ALL (place = -1), who is at a place. BAD.");
        numbers("order", -1, LAST_GUEST);
        changesNothingAnywhere("order", -1);
        changesNothingAnywhere("order", 0);
        dueOrder(inn("b60;g61,0,0;"), 1, 0);
    }

    private static void orderOfSeveral() {
        says(16, "of all ROWS that by which ALL is least, of several the first (by who is first, then ..)");
        BedsThatFit alike = inn("b60;" + SEVEN);
        alike.move(6, 0);
        alike.move(0, 6);
        dueOrder(alike, 0, 0, 1, 2, 3, 4, 5, 6);
        dueRow(alike, 6, 1, 2, 3, 4, 5, 0);
        dueOrder(inn("b60;g60,0,0;g60,0,0;g60,0,4;g60,0,0;k0;"), 0, 2, 0, 1, 3);
        dueOrder(inn("b60;g60,0,0;g60,0,0;g60,0,0;g59,0,4;k0;"), 0, 0, 3, 1, 2);
        dueOrder(inn("b60;g60,0,0;g60,0,0;g60,0,0;g61,0,0;k0;"), 1, 0, 1, 2, 3);
    }

    private static void orderFirstAndLast() {
        says(16, "as much; who is at a place");
        dueOrder(inn("b60;g60,0,4;g59,0,4;g58,0,4;g57,0,4;g56,0,4;g55,0,4;g54,0,4;k0;"), 0, 0, 1, 2, 3, 4, 5, 6);
        dueOrder(inn("b60;g54,0,4;g55,0,4;g56,0,4;g57,0,4;g58,0,4;g59,0,4;g60,0,4;k0;"), 0, 6, 5, 4, 3, 2, 1, 0);
        dueOrder(inn("b60;g57,0,4;g60,0,4;g54,0,4;g58,0,4;g55,0,4;g59,0,4;g56,0,4;k0;"), 0, 1, 5, 3, 0, 6, 4, 2);
    }

    private static void orderAsThingsStand() {
        says(16, "All else being as it is.");
        BedsThatFit x = inn("b60;g70,0,0;g60,0,4;k0;");
        dueOrder(x, 10, 1, 0);
        x.come(1, 2);
        dueOrder(x, 10, 0, 1);
        x.undo();
        dueOrder(x, 10, 1, 0);
        x.keep();
        x.wear(1, -1);
        dueOrder(x, 10, 0, 1);
        x.back();
        dueOrder(x, 10, 1, 0);
        x.move(1, 0);
        dueOrder(x, 10, 1, 0);
    }

    private static void dueCushion(BedsThatFit x, int who, int inches, int sum) {
        due("cushion(0)", x.cushion(0), who);
        due("cushion(1)", x.cushion(1), 100 + inches);
        due("cushion(2)", x.cushion(2), sum);
    }

    private static void cushionOfOne() {
        says(17, "of all GUESTS and inches (-9 to 9, in place of what he WEARS) those by which ALL is least");
        numbers("cushion", 0, 2);
        changesNothingAnywhere("cushion", 0);
        dueCushion(inn("b60;g70,0,0;"), 0, -9, 1);
        dueCushion(inn("b60;g69,0,0;"), 0, -9, 0);
        dueCushion(inn("b60;g68,0,0;"), 0, -8, 0);
        dueCushion(inn("b60;g60,0,0;"), 0, 0, 0);
        dueCushion(inn("b60;g52,0,0;"), 0, 8, 0);
        dueCushion(inn("b60;g51,0,0;"), 0, 9, 0);
        dueCushion(inn("b60;g50,0,0;"), 0, 9, 1);
        BedsThatFit worn = inn("b60;g65,0,0;");
        worn.wear(0, 5);
        dueCushion(worn, 0, -5, 0);
        due("still worn", worn.guest(0, 3), 105);
    }

    private static void cushionOfSeveral() {
        says(17, "of several the lowest GUEST, then the lowest inches: him; inches and 100; as much");
        dueCushion(inn("b60;g60,0,0;g60,0,0;k0;"), 0, 0, 0);
        dueCushion(inn("b60;g61,0,0;g61,0,0;k0;"), 0, -1, 1);
        dueCushion(inn("b60;g61,0,0;g62,0,0;k0;"), 1, -2, 1);
        dueCushion(inn("b60;g62,0,0;g62,0,0;g61,0,0;k0;"), 0, -2, 3);
        dueCushion(inn("b60;g69,0,3;g61,0,0;k0;"), 0, -9, 1);
        dueCushion(inn("b60;g60,0,0;g60,0,0;g60,0,0;g60,0,0;g60,0,0;g60,0,0;g99,0,0;k0;"), 6, -9, 30);
        dueCushion(inn("b60;g63,0,1;"), 0, -3, 0);
        dueCushion(inn("b60;g69,0,3;"), 0, -9, 0);
        dueCushion(inn("b60;g60,0,3;"), 0, -2, 0);
        dueCushion(inn("b60;g52,0,3;"), 0, 6, 0);
    }

    private static void dueLength(BedsThatFit x, int b, int inches, int sum) {
        due("length(" + b + ", 0)", x.length(b, 0), inches);
        due("length(" + b + ", 1)", x.length(b, 1), sum);
    }

    private static void lengthNumbers() {
        says(18, "LENGTH: it (what = 0), ALL (1). BAD.");
        numbers("length", 0, LAST_BED, 0, 1);
        changesNothingAnywhere("length", 0, 0);
        changesNothingAnywhere("length", 1, 1);
        BedsThatFit x = inn("b50;b60;b70;b80;g55,0,0;g66,0,0;g77,0,0;g88,0,0;k0;");
        dueLength(x, 0, 55, 6 + 7 + 8);
        dueLength(x, 1, 66, 5 + 7 + 8);
        dueLength(x, 2, 77, 5 + 6 + 8);
        dueLength(x, 3, 88, 5 + 6 + 7);
    }

    private static void lengthOfSeveral() {
        says(18, "the length (40 to 99) by which ALL is least, of several the lowest: it; as much");
        dueLength(inn("b60;g40,0,0;"), 0, 40, 0);
        dueLength(inn("b60;f0,1;g40,0,0;"), 0, 40, 1);
        dueLength(inn("b60;f0,1;g41,0,0;"), 0, 40, 0);
        dueLength(inn("b60;g99,0,0;"), 0, 99, 0);
        BedsThatFit longer = inn("b60;g99,0,0;");
        longer.wear(0, 1);
        dueLength(longer, 0, 99, 1);
        longer.wear(0, -1);
        dueLength(longer, 0, 98, 0);
        dueLength(inn("b99;g60,0,0;g70,0,0;k0;"), 0, 60, 10);
        dueLength(inn("b99;g66,0,1;"), 0, 60, 0);
        dueLength(inn("b40;g66,0,3;"), 0, 64, 0);
        dueLength(inn("b40;f0,9;g66,0,3;"), 0, 55, 0);
    }

    private static void lawOfSeveral() {
        says(19, "LAW: the KIND by which ALL is least, of several the lowest.");
        changesNothingAnywhere("law");
        for (String told : new String[] {"k0;", "k1;", "k2;"}) {
            due("all alike, " + told, inn("b60;g60,0,0;" + told).law(), 0);
            due("1 as good as 2, " + told, inn("b60;g70,0,0;g60,0,4;h0,1;" + told).law(), 1);
            due("0 as good as 1, " + told, inn("b60;g62,0,4;g61,0,0;" + told).law(), 0);
        }
    }

    private static void lawAlone() {
        says(19, "the KIND by which ALL is least");
        for (String told : new String[] {"k0;", "k1;", "k2;"}) {
            due("nobody, " + told, inn("b60;g62,0,4;g61,0,0;h0,1;" + told).law(), 0);
            due("a friend, " + told, inn("b60;g66,0,0;g60,0,0;g60,0,4;h0,2;" + told).law(), 1);
            due("anybody, " + told, inn("b60;g70,0,0;g60,0,4;h1,0;" + told).law(), 2);
        }
    }

    private static void duePairs(String text, int pairs, int first) {
        BedsThatFit x = inn(text);
        due("pairs(0) of " + text, x.pairs(0), pairs);
        due("pairs(1) of " + text, x.pairs(1), first);
    }

    private static void pairsOrNone() {
        says(20, "PAIRS: how many (what = 0), the first (1; NONE). BAD.");
        numbers("pairs", 0, 1);
        changesNothingAnywhere("pairs", 0);
        changesNothingAnywhere("pairs", 1);
        duePairs("b60;g70,0,0;", 0, NONE);
        duePairs("b60;b70;g60,0,0;g70,0,0;k0;", 0, NONE);
        duePairs("b60;b70;g70,0,0;g60,0,0;k0;", 1, 1);
    }

    private static void pairsBothLess() {
        says(20, "had they each other's places in THE ROW, both would LIE with less HARM");
        duePairs("b60;b70;g70,0,0;g70,0,0;k0;", 0, NONE);
        duePairs("b60;b70;g70,0,0;g65,0,0;k0;", 0, NONE);
        duePairs("b60;b70;g65,0,0;g60,0,0;k0;", 0, NONE);
        duePairs("b60;b70;g70,0,0;g64,0,0;k0;", 1, 1);
        duePairs("b60;b70;g66,0,0;g60,0,0;k0;", 1, 1);
        duePairs("b60;b70;g70,0,0;g60,1,0;k0;", 0, NONE);
        duePairs("b60;b90;b90;b63;g63,0,0;g90,0,0;g90,0,0;g60,0,0;k0;", 1, 3);
    }

    private static void pairsFirst() {
        says(20, "the first (by the lower one, then the other one): 10 times the lower one and the other one; none");
        duePairs("b60;b60;b70;b70;g70,0,0;g70,0,0;g60,0,0;g60,0,0;k0;", 4, 2);
        duePairs("b60;b70;b80;g60,0,0;g80,0,0;g70,0,0;k0;", 1, 12);
        duePairs("b60;b70;g60,0,0;g70,0,0;g60,0,0;g70,0,0;g60,0,0;g60,0,0;g70,0,0;k0;", 1, 56);
        BedsThatFit x = inn("b60;b70;g60,0,0;g70,0,0;k0;");
        x.move(1, 0);
        due("the lower one first, whatever the row", x.pairs(1), 1);
    }

    private static void dueLater(String text, int nights, int harm) {
        BedsThatFit x = inn(text);
        due("later(0, 0) of " + text, x.later(0, 0), nights);
        due("later(0, 1) of " + text, x.later(0, 1), harm);
    }

    private static void laterNights() {
        says(21, "by how many nights later (0 to 9; behind night 9, too) he would have to come to LIE with least HARM");
        numbers("later", 0, LAST_GUEST, 0, 1);
        changesNothingAnywhere("later", 0, 0);
        changesNothingAnywhere("later", 1, 1);
        dueLater("b60;f8,6;g66,0,0;", 8, 0);
        dueLater("b60;f9,6;g66,0,0;", 9, 0);
        dueLater("b60;f10,6;g66,0,0;", 0, 6);
        dueLater("b60;f10,6;g66,9,0;", 1, 0);
        dueLater("b60;f18,6;g66,9,0;", 9, 0);
        dueLater("b60;f19,6;g66,9,0;", 0, 6);
        dueLater("b60;f0,6;g66,1,0;", 0, 6);
    }

    private static void laterOfSeveral() {
        says(21, "of several by the fewest: how many; that HARM; none (by none of these he LIES)");
        dueLater("b60;g66,0,0;", 0, 6);
        dueLater("b60;f2,6;f4,6;g66,0,0;", 2, 0);
        dueLater("b60;f0,3;f2,3;f4,4;g66,0,0;", 4, 2);
        dueLater("b60;f0,4;f2,4;f4,3;g66,0,0;", 0, 2);
        dueLater("b60;g58,0,4;", 0, 2);
        dueLater("b60;b66;g66,0,0;g60,1,0;k0;", 0, 6);
        dueLater("b60;b66;g66,0,0;g60,1,0;k2;", 1, 0);
    }

    private static void dueRival(String text, int bits) {
        due("rival of " + text, inn(text).rival(), bits);
    }

    private static void rivalLess() {
        says(22, "in one of the beds there would be less than it is here");
        changesNothingAnywhere("rival");
        dueRival("b60;g66,0,0;", 0);
        dueRival("b60;g66,0,0;r60;", 0);
        dueRival("b60;g66,0,0;r72;", 0);
        dueRival("b60;g66,0,0;r71;", 1);
        dueRival("b60;g66,0,0;r61;", 1);
        dueRival("b60;g66,0,0;r72;r60;r99;r61;", 1);
        dueRival("b60;g66,0,0;r61;r60;r99;r72;", 1);
        dueRival("b60;g60,0,0;r60;", 0);
        dueRival("b60;" + SEVEN.replace("g60", "g70") + "r70;", 127);
        dueRival("b60;g60,0,0;g60,0,0;g60,0,0;g60,0,0;g60,0,0;g60,0,0;g70,0,0;k0;r70;", 64);
    }

    private static void rivalAsTheyCome() {
        says(22, "as they are on the night on which they come");
        dueRival("b60;g60,0,0;g60,0,4;k0;r60;", 2);
        dueRival("b60;g60,0,0;g59,0,4;k0;r60;", 0);
        dueRival("b60;f0,6;g60,0,0;r60;", 1);
        dueRival("b60;f0,6;g66,0,0;r60;", 0);
        BedsThatFit x = inn("b60;g60,0,0;r64;");
        due("nothing worn", x.rival(), 0);
        x.wear(0, 4);
        due("as worn", x.rival(), 1);
    }

    private static void fewestBeds() {
        says(23, "were there just BEDS 0 to k less 1, all would LIE by night n (0 to 29), that one, too; none");
        numbers("fewest", 0, 29);
        changesNothingAnywhere("fewest", 0);
        changesNothingAnywhere("fewest", 29);
        BedsThatFit x = inn("b60;b60;b60;b60;" + SEVEN);
        int[] want = {NONE, 4, 3, 2, 2, 2, 1, 1};
        for (int n = 0; n < want.length; n++) {
            due("by night " + n, x.fewest(n), want[n]);
        }
        due("by night 29", x.fewest(29), 1);
        BedsThatFit last = inn("b60;b60;g60,9,0;");
        due("ahead of the night on which he comes", last.fewest(8), NONE);
        due("that night", last.fewest(9), 1);
        BedsThatFit one = inn("b60;g60,0,0;g60,0,0;");
        due("one bed, night 0", one.fewest(0), NONE);
        due("one bed, night 1", one.fewest(1), 1);
    }

    private static void dueTurned(String text, int sum) {
        due("turned of " + text, inn(text).turned(), sum);
    }

    private static void turnedBeds() {
        says(24, "TURNED: ALL, were each BED on odd nights as long as the next one (the last one as BED 0).");
        changesNothingAnywhere("turned");
        for (int n = 0; n <= 9; n++) {
            dueTurned("b50;b60;b75;b99;g50," + n + ",0;k0;", n % 2 == 0 ? 0 : 10);
        }
        dueTurned("b50;b60;b75;b99;g60,1,0;g75,1,0;g99,1,0;g50,1,0;k0;", 0);
        dueTurned("b50;b60;b75;g60,1,0;g75,1,0;g50,1,0;k0;", 0);
        dueTurned("b50;b60;g60,1,0;g50,1,0;k0;", 0);
        dueTurned("b50;b60;g50,2,0;g60,2,0;k0;", 0);
        dueTurned("b60;g60,1,0;", 0);
        dueTurned("b50;b60;f1,5;g65,1,0;g55,1,0;k0;", 0);
        dueTurned("b50;b60;g50,0,0;g60,0,0;g60,0,0;g50,0,0;g50,0,0;k0;", 0);
    }
}
