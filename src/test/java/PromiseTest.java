/** Each promise by examples worked out by hand from the document. */
public final class PromiseTest extends Check {
    private static final int[] FAR = {Integer.MIN_VALUE, -1000, 1000, Integer.MAX_VALUE};

    public static void main(String[] args) {
        constants();
        promise(1); aNewObject();
        promise(2); write();
        promise(3); wipe();
        promise(4); fault();
        promise(5); lay();
        promise(6); bed();
        promise(7); guest();
        promise(8); harm();
        promise(9); lies(); liesByLaws(); liesByRow();
        promise(10); who();
        promise(11); all();
        promise(12); move();
        promise(13); wear();
        promise(14); come();
        promise(15); undo();
        promise(16); order();
        promise(17); cushion();
        promise(18); length();
        promise(19); law();
        promise(20); pairs();
        promise(21); later();
        promise(22); rival();
        promise(23); fewest();
        promise(24); turned();
        promise(25); left();
        promise(26); sweep();
        promise(27); slept();
        promise(28); sure();
        promise(29); found();
        promise(30); year();
        promise(31); keep();
        promise(32); back();
        promise(33); count();
        farNumbers();
        end("PromiseTest");
    }

    private static void constants() {
        due("BAD", BedsThatFit.BAD, BAD);
        due("NO", BedsThatFit.NO, NO);
        due("FULL", BedsThatFit.FULL, FULL);
        due("NONE", BedsThatFit.NONE, NONE);
    }

    private static void farNumbers() {
        String[] one = {"write", "all", "order", "cushion", "pairs", "fewest", "slept", "sure", "count"};
        String[] more = {"bed", "guest", "harm", "lies", "who", "move", "wear", "come", "length", "later", "left", "found", "year"};
        BedsThatFit x = new BedsThatFit();
        x.left(0, 0, 0);
        for (int far : FAR) {
            for (String name : one) {
                due(name + "(" + far + ")", Caller.call(x, name, far), BAD);
            }
            for (String name : more) {
                due(name + ", all far", Caller.call(x, name, far, far, far), BAD);
                due(name + ", the first far", Caller.call(x, name, name.equals("year") && far == 1000 ? 10000 : far, 0, 0), BAD);
                due(name + ", the second far", Caller.call(x, name, 0, far, 0), BAD);
            }
        }
        dueCounts(x, 2, 3, 0, 0, 1, 1, 0, 0, 0);
    }

    private static void aNewObject() {
        BedsThatFit x = new BedsThatFit();
        dueCounts(x, 2, 3, 0, 0, 1, 0, 0, 0, 0);
        due("bed 0", x.bed(0, 0), 60);
        due("bed 1", x.bed(1, 0), 72);
        int[] inches = {66, 60, 75};
        int[] friends = {6, 0, 0};
        for (int i = 0; i < 3; i++) {
            due("inches", x.guest(i, 0), inches[i]);
            due("night", x.guest(i, 1), 0);
            due("kind", x.guest(i, 2), 0);
            due("worn", x.guest(i, 3), 100);
            due("friends", x.guest(i, 4), friends[i]);
            due("place", x.guest(i, 5), i);
        }
        due("fault", x.fault(), NONE);
        due("nothing to lay", x.lay(), NO);
        due("still the first inn", x.count(1), 3);
        new BedsThatFit().wear(0, 5);
        due("objects do not meet", x.guest(0, 3), 100);
    }

    private static void write() {
        BedsThatFit x = new BedsThatFit();
        due("31", x.write(31), BAD);
        due("127", x.write(127), BAD);
        for (int far : FAR) {
            due("far", x.write(far), BAD);
        }
        due("98 + 256", x.write('b' + 256), BAD);
        due("98 + 65536", x.write('b' + 65536), BAD);
        due("32", x.write(32), 1);
        due("126", x.write(126), 2);
        for (int k = 3; k <= 200; k++) {
            due("letter " + k, x.write('b'), k);
        }
        due("full", x.write('b'), FULL);
        due("bad ahead of full", x.write(31), BAD);
        due("still 200", x.count(8), 200);
        x.wipe();
        due("again", x.write('b'), 1);
    }

    private static void wipe() {
        BedsThatFit x = new BedsThatFit();
        due("empty", x.wipe(), 0);
        put(x, "b60;x");
        due("5 letters", x.wipe(), 5);
        due("none now", x.count(8), 0);
        due("no fault now", x.fault(), NONE);
        due("the inn stands", x.count(1), 3);
        BedsThatFit y = inn("b60;g60,0,0;");
        due("the text stays behind lay", y.wipe(), 12);
        due("the inn stays behind wipe", y.count(1), 1);
    }

    private static void dueFault(String text, int want) {
        BedsThatFit x = new BedsThatFit();
        put(x, text);
        due("fault of " + text, x.fault(), want);
        due("and again", x.fault(), want);
        due("the inn is as it was", x.bed(1, 0), 72);
        if (want != NONE) {
            due("lay of " + text, x.lay(), NO);
        }
    }

    private static void fault() {
        String[] fine = {"", "b40;", "b99;", "b60;b60;b60;b60;", "f0,0;", "f29,9;", "f05,09;", "f1,1;f1,1;f1,1;f1,1;",
            "g40,0,0;", "g99,9,4;", "g99,09,04;", "g50,0,0;g50,0,0;h0,1;h1,0;h0,1;h00,01;", "k0;", "k1;", "k2;", "k02;",
            "k2;k0;k1;k1;k1;k1;", "r40;r99;r99;r99;", "g50,0,0;g50,0,0;g50,0,0;g50,0,0;g50,0,0;g50,0,0;g50,0,0;h6,5;"};
        for (String text : fine) {
            dueFault(text, NONE);
        }
        String[] first = {"b39;", "b9;", "b100;", "b;", "b", "b6", "b60", "b60,", "b60,1;", "b 60;", " b60;", "B60;", "60;",
            ";", ",", "x60;", "b60.", "b-60;", "b6x;", "f30,0;", "f0,10;", "f0;", "f0,0,0;", "f,0;", "f0,;", "f0,0,;", "f0,0",
            "f001,1;", "g39,0,0;", "g50,10,0;", "g50,0,5;", "g50,0;", "g50,0,0,0;", "g50,0,0,", "g50,0,0", "g50,,0;", "g;",
            "h0,1;", "h0;", "k3;", "k;", "k0,0;", "r39;", "r5;", "r50,0;", "a1;"};
        for (String text : first) {
            dueFault(text, 0);
            dueFault("b60;" + text, 4);
            dueFault("b60;f1,2;" + text, 9);
        }
        dueFault("b60;b60;b60;b60;b60;", 16);
        dueFault("f1,1;f1,1;f1,1;f1,1;f2,1;", 20);
        dueFault("r50;r50;r50;r50;r50;", 16);
        dueFault("g50,0,0;g50,0,0;g50,0,0;g50,0,0;g50,0,0;g50,0,0;g50,0,0;g50,0,0;", 56);
        dueFault("g50,0,0;h0,1;g50,0,0;", 8);
        dueFault("g50,0,0;g50,0,0;h1,1;", 16);
        dueFault("g50,0,0;g50,0,0;h0,2;", 16);
        dueFault("g50,0,0;g50,0,0;h2,0;", 16);
        dueFault("g50,0,0;g50,0,0;h0,1;h1,0,0;", 21);
        dueFault("b60;b39;b38;", 4);
        dueFault("b60;\u007e", 4);
        dueFault("b60;;", 4);
    }

    private static void lay() {
        for (String text : new String[] {"", "b60;", "g60,0,0;", "b60;g60,0,0", "b60;g60,0,0;x", "k1;f1,1;r50;"}) {
            BedsThatFit x = new BedsThatFit();
            x.wear(0, 3);
            x.left(0, 0, 0);
            x.keep();
            put(x, text);
            due("lay of " + text, x.lay(), NO);
            dueCounts(x, 2, 3, 0, 0, 1, 1, 1, 1, text.length());
            due("still worn", x.guest(0, 3), 103);
        }
        BedsThatFit x = new BedsThatFit();
        x.wear(0, 3);
        x.come(1, 4);
        x.move(2, 0);
        x.keep();
        x.left(0, 0, 0);
        put(x, "b61;f3,4;g70,1,4;g71,2,3;g72,3,2;g73,0,0;h3,0;r44;k0;k2;");
        due("lay", x.lay(), 4);
        dueCounts(x, 1, 4, 1, 1, 2, 0, 0, 0, 56);
        dueRow(x, 0, 1, 2, 3);
        due("worn", x.guest(0, 3), 100);
        due("night", x.guest(1, 1), 2);
        due("friends", x.guest(3, 4), 1);
        due("no friends from before", x.guest(0, 4), 0);
        due("undo", x.undo(), NO);
        due("back", x.back(), NO);
        due("slept", x.slept(0), BAD);
        x.come(1, 9);
        x.wear(1, 9);
        due("the same again", x.lay(), 4);
        due("as told", x.guest(1, 1), 2);
        due("nothing worn", x.guest(1, 3), 100);
        x.wipe();
        put(x, "b50;g50,0,0;");
        due("a smaller one", x.lay(), 1);
        due("no feast from before", x.bed(0, 3), 50);
        dueCounts(x, 1, 1, 0, 0, 1, 0, 0, 0, 12);
        due("order anew", x.order(1), BAD);
        x.order(0);
        x.wipe();
        put(x, "b60;g70,0,0;g60,0,4;");
        x.lay();
        due("the order of this one", x.order(-1), 10);
        put(x, "x");
        due("a fault behind it", x.lay(), NO);
        due("nothing of it is told", x.harm(0, 0, 0), 10);
    }

    private static void bed() {
        BedsThatFit x = inn("b60;b70;f1,5;f29,9;f1,2;f3,0;g60,0,0;");
        int[][] want = {{0, 60, 70}, {1, 67, 77}, {2, 60, 70}, {3, 60, 70}, {28, 60, 70}, {29, 69, 79}};
        for (int[] w : want) {
            due("bed(0, " + w[0] + ")", x.bed(0, w[0]), w[1]);
            due("bed(1, " + w[0] + ")", x.bed(1, w[0]), w[2]);
        }
        due("b -1", x.bed(-1, 0), BAD);
        due("b 2", x.bed(2, 0), BAD);
        due("n -1", x.bed(0, -1), BAD);
        due("n 30", x.bed(0, 30), BAD);
        for (int far : FAR) {
            due("far b", x.bed(far, 0), BAD);
            due("far n", x.bed(0, far), BAD);
        }
        due("longer than any", inn("b99;f0,9;f0,9;f0,9;f0,9;g60,0,0;").bed(0, 0), 135);
    }

    private static void guest() {
        BedsThatFit x = inn("b60;g40,9,4;g99,0,1;g50,3,2;h0,2;h0,1;h2,0;h0,2;");
        int[][] want = {{40, 9, 4, 100, 6, 0}, {99, 0, 1, 100, 0, 1}, {50, 3, 2, 100, 1, 2}};
        for (int i = 0; i < 3; i++) {
            for (int what = 0; what < 6; what++) {
                due("guest(" + i + ", " + what + ")", x.guest(i, what), want[i][what]);
            }
            due("what 6", x.guest(i, 6), BAD);
            due("what -1", x.guest(i, -1), BAD);
        }
        x.wear(0, -9);
        x.come(0, 2);
        x.move(0, 1);
        due("inches as told", x.guest(0, 0), 40);
        due("worn", x.guest(0, 3), 91);
        due("comes", x.guest(0, 1), 2);
        dueRow(x, 1, 0, 2);
        due("i -1", x.guest(-1, 0), BAD);
        due("i 3", x.guest(3, 0), BAD);
        for (int far : FAR) {
            due("far i", x.guest(far, 0), BAD);
            due("far what", x.guest(0, far), BAD);
        }
    }

    private static void harm() {
        BedsThatFit x = inn("b60;f1,2;g66,0,1;g67,0,1;g58,0,1;g58,0,2;g63,0,2;g62,0,3;g57,0,3;");
        int[] want = {0, 1, 2, 4, 3, 0, 1};
        int[] feast = {0, 0, 4, 8, 1, 0, 3};
        for (int i = 0; i < 7; i++) {
            due("harm(" + i + ", 0, 0)", x.harm(i, 0, 0), want[i]);
            due("harm(" + i + ", 0, 1)", x.harm(i, 0, 1), feast[i]);
        }
        x.wear(1, 9);
        due("more worn", x.harm(1, 0, 0), 10);
        x.wear(1, -9);
        due("less worn", x.harm(1, 0, 0), 2);
        BedsThatFit y = inn("b60;b61;g58,2,4;g55,0,0;");
        int[][] grown = {{0, 2}, {1, 2}, {2, 2}, {3, 1}, {4, 0}, {5, 1}, {29, 25}};
        for (int[] g : grown) {
            due("growing, night " + g[0], y.harm(0, 0, g[0]), g[1]);
        }
        y.come(0, 3);
        due("he comes later", y.harm(0, 0, 3), 2);
        due("the other bed", y.harm(1, 1, 0), 6);
        due("plain ones do not grow", y.harm(1, 0, 29), 5);
        due("i 2", y.harm(2, 0, 0), BAD);
        due("i -1", y.harm(-1, 0, 0), BAD);
        due("b 2", y.harm(0, 2, 0), BAD);
        due("b -1", y.harm(0, -1, 0), BAD);
        due("n 30", y.harm(0, 0, 30), BAD);
        due("n -1", y.harm(0, 0, -1), BAD);
    }

    private static void lies() {
        BedsThatFit x = new BedsThatFit();
        dueLies(x, 0, 1, 0, 6, NONE, 3);
        dueLies(x, 1, 0, 0, 0, 0, 0);
        dueLies(x, 2, 0, 1, 3, 0, 0);
        due("i 3", x.lies(3, 0), BAD);
        due("i -1", x.lies(-1, 0), BAD);
        due("what 5", x.lies(0, 5), BAD);
        due("what -1", x.lies(0, -1), BAD);
        for (int far : FAR) {
            due("far i", x.lies(far, 0), BAD);
            due("far what", x.lies(0, far), BAD);
        }
    }

    private static void liesByLaws() {
        BedsThatFit any = inn("b60;g66,0,0;g62,0,0;g58,0,0;k2;");
        dueLies(any, 0, 2, 0, 6, NONE, 3);
        dueLies(any, 1, 0, 0, 2, 0, 0);
        dueLies(any, 2, 1, 0, 2, 0, 0);
        BedsThatFit nobody = inn("b60;g66,0,0;g62,0,0;g58,0,0;h0,1;h0,2;k0;");
        dueLies(nobody, 0, 0, 0, 6, NONE, 1);
        dueLies(nobody, 1, 1, 0, 2, NONE, 1);
        dueLies(nobody, 2, 2, 0, 2, NONE, 1);
        BedsThatFit friend = inn("b60;g66,0,0;g62,0,0;g61,0,0;h0,1;h2,0;");
        dueLies(friend, 0, 1, 0, 6, NONE, 2);
        dueLies(friend, 1, 0, 0, 2, 0, 0);
        dueLies(friend, 2, 2, 0, 1, NONE, 1);
        BedsThatFit alike = inn("b60;g62,0,0;g58,0,0;k2;");
        dueLies(alike, 0, 0, 0, 2, NONE, 1);
        BedsThatFit notYet = inn("b60;g66,0,0;g60,1,0;h0,1;");
        dueLies(notYet, 0, 0, 0, 6, NONE, 1);
        dueLies(notYet, 1, 1, 0, 0, NONE, 1);
    }

    private static void liesByRow() {
        BedsThatFit x = inn("b60;b62;f1,1;g60,0,0;g60,0,4;g70,1,0;g59,9,0;k0;");
        x.move(2, 0);
        dueLies(x, 0, 0, 0, 0, NONE, 1);
        dueLies(x, 1, 0, 1, 2, NONE, 1);
        dueLies(x, 2, 1, 0, 9, NONE, 1);
        dueLies(x, 3, 9, 0, 1, NONE, 1);
        x.come(0, 1);
        dueLies(x, 1, 0, 0, 0, NONE, 1);
        dueLies(x, 2, 1, 0, 9, NONE, 1);
        dueLies(x, 0, 1, 1, 3, NONE, 1);
        x.wear(0, -5);
        dueLies(x, 0, 1, 1, 8, NONE, 1);
    }

    private static void who() {
        BedsThatFit x = inn("b60;b62;g60,0,0;g60,0,4;g70,1,0;g59,9,0;k0;");
        due("0, 0", x.who(0, 0), 0);
        due("1, 0", x.who(1, 0), 1);
        due("0, 1", x.who(0, 1), 2);
        due("1, 1", x.who(1, 1), NONE);
        due("0, 9", x.who(0, 9), 3);
        due("0, 29", x.who(0, 29), NONE);
        due("b 2", x.who(2, 0), BAD);
        due("b -1", x.who(-1, 0), BAD);
        due("n 30", x.who(0, 30), BAD);
        due("n -1", x.who(0, -1), BAD);
        due("named", new BedsThatFit().who(0, 0), 1);
    }

    private static void all() {
        BedsThatFit x = new BedsThatFit();
        int[] want = {9, 3, 1, 6};
        for (int what = 0; what < 4; what++) {
            due("all(" + what + ")", x.all(what), want[what]);
        }
        due("what 4", x.all(4), BAD);
        due("what -1", x.all(-1), BAD);
        BedsThatFit y = inn("b60;g60,9,0;g60,9,0;g66,9,1;g59,9,2;g69,9,0;g60,9,4;g61,9,3;k0;");
        due("ALL", y.all(0), 0 + 0 + 0 + 2 + 9 + 5 + 0);
        due("all lie", y.all(1), 7);
        due("without harm", y.all(2), 4);
        due("the greatest", y.all(3), 9);
    }

    private static void move() {
        BedsThatFit x = inn("b60;g60,0,0;g60,0,0;g60,0,0;g60,0,0;");
        due("3 to 1", x.move(3, 1), 3);
        dueRow(x, 0, 3, 1, 2);
        due("0 to 3", x.move(0, 3), 0);
        dueRow(x, 3, 1, 2, 0);
        due("2 where he is", x.move(2, 2), 2);
        dueRow(x, 3, 1, 2, 0);
        due("place 4", x.move(0, 4), BAD);
        due("place -1", x.move(0, -1), BAD);
        due("i 4", x.move(4, 0), BAD);
        due("i -1", x.move(-1, 0), BAD);
        for (int far : FAR) {
            due("far", x.move(far, far), BAD);
        }
        dueRow(x, 3, 1, 2, 0);
        due("three changes", x.count(6), 3);
        due("the row is used", x.who(0, 0), 3);
    }

    private static void wear() {
        BedsThatFit x = inn("b60;g60,0,0;g60,0,0;");
        due("first", x.wear(1, 9), 100);
        due("then", x.wear(1, -9), 109);
        due("the same", x.wear(1, -9), 91);
        due("10", x.wear(1, 10), BAD);
        due("-10", x.wear(1, -10), BAD);
        due("i 2", x.wear(2, 0), BAD);
        due("i -1", x.wear(-1, 0), BAD);
        due("worn", x.guest(1, 3), 91);
        due("not the other", x.guest(0, 3), 100);
        due("harm", x.harm(1, 0, 0), 9);
        due("three changes", x.count(6), 3);
    }

    private static void come() {
        BedsThatFit x = inn("b60;g60,4,0;g60,0,4;");
        due("first", x.come(0, 9), 4);
        due("then", x.come(0, 0), 9);
        due("the same", x.come(0, 0), 0);
        due("10", x.come(0, 10), BAD);
        due("-1", x.come(0, -1), BAD);
        due("i 2", x.come(2, 0), BAD);
        due("i -1", x.come(-1, 0), BAD);
        due("comes", x.guest(0, 1), 0);
        due("lies", x.lies(1, 0), 1);
        due("three changes", x.count(6), 3);
    }

    private static void undo() {
        BedsThatFit x = inn("b60;g60,4,0;g60,0,0;g60,0,0;");
        due("none", x.undo(), NO);
        x.move(2, 0);
        x.move(0, 2);
        x.wear(1, 4);
        x.wear(1, 10);
        x.come(0, 7);
        due("come", x.undo(), 3);
        due("comes", x.guest(0, 1), 4);
        due("wear", x.undo(), 2);
        due("worn", x.guest(1, 3), 100);
        dueRow(x, 2, 1, 0);
        due("move", x.undo(), 1);
        dueRow(x, 2, 0, 1);
        due("the other move", x.undo(), 0);
        dueRow(x, 0, 1, 2);
        due("no more", x.undo(), NO);
        for (int c = 1; c <= 9; c++) {
            x.wear(0, c);
        }
        due("eight of nine", x.count(6), 8);
        for (int k = 7; k >= 0; k--) {
            due("one of them", x.undo(), k);
            due("worn then", x.guest(0, 3), 101 + k);
        }
        due("the ninth", x.undo(), NO);
        x.move(1, 1);
        due("a move to the same place counts", x.undo(), 0);
    }

    private static void order() {
        BedsThatFit x = inn("b60;g70,0,0;g60,0,4;");
        due("ALL", x.order(-1), 10);
        due("first", x.order(0), 1);
        due("second", x.order(1), 0);
        due("place 2", x.order(2), BAD);
        due("place -2", x.order(-2), BAD);
        due("the row is as it was", x.guest(0, 5), 0);
        due("ALL is as it was", x.all(0), 11);
        x.wear(1, -1);
        due("once he wears less", x.order(-1), 10);
        due("then the other order", x.order(0), 0);
        x.undo();
        due("undone", x.order(0), 1);
        x.come(0, 9);
        due("of several the first", x.order(0), 0);
        due("as both come", x.order(-1), 10);
        x.keep();
        x.wear(0, -9);
        due("as worn", x.order(-1), 1);
        x.back();
        due("as kept", x.order(-1), 10);
        // 0 is harmed by 5 on any night; 2, who grows, least (by 2) as the first; the others never
        BedsThatFit w = inn("b65;g67,3,3;g65,3,0;g67,3,4;g65,5,0;k0;");
        w.wear(0, -9);
        int[] best = {2, 0, 1, 3};
        for (int p = 0; p < 4; p++) {
            due("the growing one first", w.order(p), best[p]);
        }
        due("5 and 2", w.order(-1), 7);
        BedsThatFit y = inn("b60;b60;g60,0,0;g60,0,0;g60,0,0;g60,0,0;g60,0,0;g60,0,0;g60,0,0;");
        y.move(6, 0);
        for (int p = 0; p < 7; p++) {
            due("all alike", y.order(p), p);
        }
    }

    private static void cushion() {
        BedsThatFit x = inn("b60;g70,0,0;g60,0,4;");
        due("who", x.cushion(0), 0);
        due("what", x.cushion(1), 91);
        due("ALL", x.cushion(2), 2);
        due("what 3", x.cushion(3), BAD);
        due("what -1", x.cushion(-1), BAD);
        due("he wears nothing", x.guest(0, 3), 100);
        due("no change", x.count(6), 0);
        BedsThatFit y = inn("b60;g60,0,1;g60,0,1;");
        y.wear(0, 5);
        due("the lowest guest", y.cushion(0), 0);
        due("the lowest inches", y.cushion(1), 100);
        due("none harmed", y.cushion(2), 0);
        due("still worn", y.guest(0, 3), 105);
        y.wear(1, -3);
        due("in place of what the other wears", y.cushion(0), 1);
        due("inches", y.cushion(1), 100);
        BedsThatFit z = inn("b60;g70,0,0;g40,0,0;g51,0,0;k0;");
        due("of as much, the lowest guest", z.cushion(0), 0);
        due("9 less", z.cushion(1), 91);
        z.wear(0, -9);
        due("then the next", z.cushion(0), 1);
        due("9 more", z.cushion(1), 109);
        due("1 and 11 and 9", z.cushion(2), 21);
    }

    private static void length() {
        BedsThatFit x = inn("b50;b90;g45,0,0;g80,0,0;k0;");
        due("bed 0", x.length(0, 0), 45);
        due("ALL", x.length(0, 1), 10);
        due("bed 1", x.length(1, 0), 80);
        due("ALL", x.length(1, 1), 5);
        due("b 2", x.length(2, 0), BAD);
        due("b -1", x.length(-1, 0), BAD);
        due("what 2", x.length(0, 2), BAD);
        due("what -1", x.length(0, -1), BAD);
        due("as it was", x.bed(0, 0), 50);
        due("the lowest of several", inn("b90;g66,0,1;").length(0, 0), 60);
        due("as told, feasts on top", inn("b50;f0,9;g60,0,0;").length(0, 0), 51);
        BedsThatFit y = inn("b50;f0,9;g42,0,0;");
        due("40 at least", y.length(0, 0), 40);
        due("harm then", y.length(0, 1), 7);
        BedsThatFit z = inn("b50;g99,0,0;");
        z.wear(0, 9);
        due("99 at most", z.length(0, 0), 99);
        due("harm then", z.length(0, 1), 9);
    }

    private static void law() {
        BedsThatFit x = inn("b60;g70,0,0;g60,0,4;");
        due("any", x.law(), 2);
        due("as it was", x.count(4), 1);
        due("nobody", inn("b60;g60,0,0;k2;").law(), 0);
        BedsThatFit y = new BedsThatFit();
        due("friends", y.law(), 1);
        BedsThatFit z = inn("b60;g70,0,0;g60,0,4;k2;");
        due("no other", z.law(), 2);
        due("as it was", z.count(4), 2);
    }

    private static void pairs() {
        BedsThatFit x = inn("b60;b70;b80;g60,0,0;g80,0,0;g70,0,0;k0;");
        due("how many", x.pairs(0), 1);
        due("the first", x.pairs(1), 12);
        due("what 2", x.pairs(2), BAD);
        due("what -1", x.pairs(-1), BAD);
        dueRow(x, 0, 1, 2);
        x.move(2, 1);
        due("none", x.pairs(0), 0);
        due("none", x.pairs(1), NONE);
        BedsThatFit y = inn("b60;b70;g70,0,0;g60,0,0;k0;");
        due("one", y.pairs(0), 1);
        due("0 and 1", y.pairs(1), 1);
        due("one better only is none", inn("b60;b70;g70,0,0;g70,0,0;k0;").pairs(0), 0);
        due("the other as before is none", inn("b60;b70;g70,0,0;g65,0,0;k0;").pairs(0), 0);
        due("nor the other way round", inn("b60;b70;g65,0,0;g60,0,0;k0;").pairs(0), 0);
        BedsThatFit z = inn("b60;b60;b70;b70;g70,0,0;g70,0,0;g60,0,0;g60,0,0;k0;");
        due("four", z.pairs(0), 4);
        due("0 and 2", z.pairs(1), 2);
    }

    private static void later() {
        BedsThatFit x = inn("b60;f2,6;g66,0,0;");
        due("nights", x.later(0, 0), 2);
        due("harm", x.later(0, 1), 0);
        due("as it was", x.guest(0, 1), 0);
        due("i 1", x.later(1, 0), BAD);
        due("i -1", x.later(-1, 0), BAD);
        due("what 2", x.later(0, 2), BAD);
        due("what -1", x.later(0, -1), BAD);
        BedsThatFit y = inn("b60;f18,6;f19,7;g67,9,0;");
        due("behind night 9", y.later(0, 0), 9);
        due("not 10 nights later", y.later(0, 1), 1);
        BedsThatFit z = inn("b60;g58,0,4;");
        due("growing starts as he comes", z.later(0, 0), 0);
        due("harm", z.later(0, 1), 2);
    }

    private static void rival() {
        due("none there", inn("b60;g66,0,0;").rival(), 0);
        due("one", inn("b60;g66,0,0;g60,0,0;r64;").rival(), 1);
        due("as much is not less", inn("b60;g66,0,0;g60,0,0;r72;").rival(), 0);
        due("one of several", inn("b60;g66,0,0;g62,0,0;r99;r99;r63;").rival(), 3);
        due("as he comes", inn("b60;g50,0,0;g60,0,4;r60;").rival(), 2);
        due("no feasts there", inn("b60;f0,6;g60,0,0;r60;").rival(), 1);
        due("kinds there", inn("b50;g66,0,1;g55,0,2;r60;").rival(), 1);
        BedsThatFit x = inn("b60;g60,0,0;r64;");
        x.wear(0, 4);
        due("as worn", x.rival(), 1);
    }

    private static void fewest() {
        BedsThatFit x = inn("b60;b60;b60;g60,0,0;g60,0,0;g60,0,0;");
        int[] want = {3, 2, 1, 1};
        for (int n = 0; n < 4; n++) {
            due("by night " + n, x.fewest(n), want[n]);
        }
        due("by night 29", x.fewest(29), 1);
        due("30", x.fewest(30), BAD);
        due("-1", x.fewest(-1), BAD);
        due("beds are as they were", x.who(2, 0), 2);
        BedsThatFit y = inn("b60;b60;g60,5,0;");
        due("not come yet", y.fewest(4), NONE);
        due("come", y.fewest(5), 1);
    }

    private static void turned() {
        BedsThatFit x = inn("b60;b70;g60,0,0;g70,0,0;g60,0,0;k0;");
        due("turned", x.turned(), 10);
        due("as it was", x.all(0), 0);
        due("as long as it was", x.bed(0, 1), 60);
        BedsThatFit y = inn("b50;b60;b70;f1,1;g52,1,0;g60,1,0;g70,1,0;k0;");
        due("the last one as the first, feasts too", y.turned(), 9 + 11 + 19);
        due("one bed", inn("b60;g61,1,0;").turned(), 1);
    }

    private static void left() {
        BedsThatFit x = inn("b60;b70;g60,0,0;");
        due("h 100", x.left(0, 0, 100), BAD);
        due("h -1", x.left(0, 0, -1), BAD);
        due("n 30", x.left(0, 30, 0), BAD);
        due("n -1", x.left(0, -1, 0), BAD);
        due("b 2", x.left(2, 0, 0), BAD);
        due("b -1", x.left(-1, 0, 0), BAD);
        due("none yet", x.count(5), 0);
        due("first", x.left(1, 29, 99), 1);
        for (int k = 2; k <= 6; k++) {
            due("one more", x.left(0, 0, 0), k);
        }
        due("full", x.left(0, 0, 0), FULL);
        due("bad ahead of full", x.left(0, 0, 100), BAD);
        due("six", x.count(5), 6);
        due("no change to be undone", x.count(6), 0);
    }

    private static void sweep() {
        BedsThatFit x = inn("b60;g60,0,0;");
        due("none", x.sweep(), 0);
        x.left(0, 0, 0);
        x.left(0, 0, 5);
        due("two", x.sweep(), 2);
        due("none now", x.count(5), 0);
        due("slept", x.slept(0), BAD);
        due("one way", x.sure(-1), 1);
        due("first again", x.left(0, 0, 3), 1);
    }

    private static void slept() {
        BedsThatFit x = inn("b60;b70;f2,4;g62,0,0;g58,0,0;g62,3,0;g60,0,4;");
        x.left(0, 0, 2);
        x.left(0, 3, 2);
        x.left(1, 2, 12);
        x.left(0, 2, 2);
        due("not yet come", x.slept(0), 3);
        due("come by then", x.slept(1), 7);
        due("the other bed, a feast", x.slept(2), 9);
        due("grown", x.slept(3), 9);
        due("k 4", x.slept(4), BAD);
        due("k -1", x.slept(-1), BAD);
        for (int far : FAR) {
            due("far", x.slept(far), BAD);
        }
        x.wear(1, 1);
        due("as worn now", x.slept(0), 1);
        x.come(2, 0);
        due("as come now", x.slept(0), 5);
    }

    private static void sure() {
        BedsThatFit x = inn("b60;g62,0,0;g58,0,0;g62,3,0;");
        due("nothing left, one way", x.sure(-1), 1);
        due("k 0", x.sure(0), BAD);
        due("k -2", x.sure(-2), BAD);
        x.left(0, 0, 2);
        x.left(0, 3, 2);
        due("ways", x.sure(-1), 4);
        due("none sure", x.sure(0), NONE);
        due("none sure", x.sure(1), NONE);
        x.wear(1, 1);
        due("one way", x.sure(-1), 1);
        due("0", x.sure(0), 0);
        due("2, since 0 is taken", x.sure(1), 2);
        due("k 2", x.sure(2), BAD);
        x.left(0, 3, 2);
        due("no way", x.sure(-1), 0);
        due("nobody then", x.sure(0), NONE);
        BedsThatFit y = inn("b60;g60,0,0;g60,0,0;g60,0,0;g60,0,0;g60,0,0;g60,0,0;g60,0,0;");
        for (int k = 0; k < 6; k++) {
            y.left(0, 0, 0);
        }
        due("most ways", y.sure(-1), 5040);
        BedsThatFit z = inn("b60;g60,0,0;g62,0,0;g58,0,0;");
        z.left(0, 0, 2);
        z.left(0, 0, 0);
        due("two ways", z.sure(-1), 2);
        due("one of two", z.sure(0), NONE);
        due("sure in both", z.sure(1), 0);
    }

    private static void found() {
        BedsThatFit x = inn("b60;g60,0,0;g60,0,0;g60,0,0;");
        due("nothing worn", x.found(2, 10), 1000);
        x.wear(2, 3);
        due("three nights, cut each", x.found(2, 7), 492);
        x.wear(1, -3);
        due("two nights, less worn", x.found(1, 7), 624);
        x.wear(0, 9);
        due("one night", x.found(0, 10), 100);
        due("x 0", x.found(0, 0), 1000);
        x.come(2, 2);
        due("one night, once he comes later", x.found(2, 7), 790);
        due("x 11", x.found(0, 11), BAD);
        due("x -1", x.found(0, -1), BAD);
        due("i 3", x.found(3, 0), BAD);
        due("i -1", x.found(-1, 0), BAD);
    }

    private static void year() {
        // q is 1: 1 modulo 7, less 3
        due("58", inn("b60;g58,0,0;").year(0, 0), 0);
        due("none harmed", inn("b60;g58,0,0;").year(0, 1), 1);
        due("60", inn("b60;g60,0,0;").year(0, 0), 2);
        due("harmed", inn("b60;g60,0,0;").year(0, 1), 0);
        // bed 1: q is 102, 10404 modulo 7 is 2, less 3
        due("bed 1", inn("b60;b70;f0,5;g63,0,0;g74,0,0;").year(0, 0), 0);
        // z 9999, night 1: q is 79188233, its square modulo 65521 is 32612, modulo 7 is 6, less 3
        due("the last year", inn("b60;g63,1,0;").year(9999, 0), 0);
        due("the last year", inn("b60;g64,1,0;").year(9999, 0), 1);
        BedsThatFit x = inn("b60;g60,0,0;");
        x.year(0, 0);
        due("as it was", x.bed(0, 0), 60);
        due("ALL as it was", x.all(0), 0);
        due("z 10000", x.year(10000, 0), BAD);
        due("z -1", x.year(-1, 0), BAD);
        due("what 2", x.year(0, 2), BAD);
        due("what -1", x.year(0, -1), BAD);
    }

    private static void keep() {
        BedsThatFit x = new BedsThatFit();
        x.wear(0, 1);
        due("one", x.keep(), 1);
        due("two", x.keep(), 2);
        due("full", x.keep(), FULL);
        due("two still", x.count(7), 2);
        due("what can be undone stays", x.count(6), 1);
        due("worn still", x.guest(0, 3), 101);
    }

    private static void back() {
        BedsThatFit x = new BedsThatFit();
        due("none", x.back(), NO);
        x.move(2, 0);
        x.wear(1, 5);
        x.come(0, 3);
        x.keep();
        x.move(1, 0);
        x.wear(1, -5);
        x.come(0, 4);
        x.keep();
        x.wear(1, 0);
        x.left(0, 0, 0);
        due("the last one", x.back(), 1);
        dueRow(x, 1, 2, 0);
        due("worn", x.guest(1, 3), 95);
        due("comes", x.guest(0, 1), 4);
        due("what is left stays", x.count(5), 1);
        due("nothing to undo", x.undo(), NO);
        x.wear(2, 2);
        due("the first one", x.back(), 0);
        dueRow(x, 2, 0, 1);
        due("worn", x.guest(1, 3), 105);
        due("comes", x.guest(0, 1), 3);
        due("not worn any more", x.guest(2, 3), 100);
        due("nothing to undo", x.count(6), 0);
        due("no more", x.back(), NO);
        due("room again", x.keep(), 1);
    }

    private static void count() {
        BedsThatFit x = inn("b60;b61;b62;f1,1;f1,1;g60,0,0;g61,0,0;g62,0,0;g63,0,0;r50;r50;r50;k0;");
        x.left(0, 0, 0);
        x.left(0, 0, 0);
        x.wear(0, 1);
        x.wear(0, 2);
        x.wear(0, 3);
        x.keep();
        dueCounts(x, 3, 4, 2, 3, 0, 2, 3, 1, 69);
        due("what 9", x.count(9), BAD);
        due("what -1", x.count(-1), BAD);
        for (int far : FAR) {
            due("far", x.count(far), BAD);
        }
    }
}
