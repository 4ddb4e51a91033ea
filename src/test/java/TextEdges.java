import java.util.List;
import java.util.function.Consumer;

/** Edges of inns: the text, what it tells, beds, guests, harm (promises 1 to 8). */
final class TextEdges extends Edges {
    private static final String FIRST_INN = "b60;b72;g66,0,0;g60,0,0;g75,0,0;h0,1;h0,2;";
    private static final String GUESTS = "g50,0,0;g50,0,0;g50,0,0;g50,0,0;g50,0,0;g50,0,0;g50,0,0;";

    private TextEdges() {
    }

    static void run() {
        aNewObject();
        letters();
        fullText();
        wiped();
        faultOfNothing();
        formOfItems();
        howManyNumbers();
        placeOfFault();
        bedsTold();
        feastsTold();
        guestsTold();
        friendsTold();
        lawsTold();
        rivalsTold();
        fullTextRead();
        laidOrNot();
        laidAnew();
        laidWithoutWhatWas();
        laidAsInANewObject();
        bedOnNights();
        guestAsked();
        harmNumbers();
        harmOfPlain();
        harmOfBent();
        harmOfChild();
        harmOfKnown();
        harmOfGrowing();
        harmAsWorn();
    }

    private static void aNewObject() {
        says(1, "at first " + FIRST_INN);
        BedsThatFit told = new BedsThatFit();
        put(told, FIRST_INN);
        due("the first inn told", told.lay(), 3);
        told.wipe();
        mustBe("a new object is as that", Seen.STATE.of(told).equals(Seen.STATE.of(new BedsThatFit())));
        mustBe("so are its nights", Seen.NIGHTS.of(told).equals(Seen.NIGHTS.of(new BedsThatFit())));
        due("bed 0", new BedsThatFit().bed(0, 0), 60);
        due("bed 1", new BedsThatFit().bed(1, 0), 72);
        due("friends of 0", new BedsThatFit().guest(0, 4), 6);
        says(1, "As told.");
        BedsThatFit x = new BedsThatFit();
        dueCounts(x, 2, 3, 0, 0, 1, 0, 0, 0, 0);
        due("no letter", x.wipe(), 0);
        due("no fault", x.fault(), NONE);
        due("nothing undone", x.undo(), NO);
        due("nothing kept", x.back(), NO);
        due("nothing left", x.sweep(), 0);
        due("nothing to lay", x.lay(), NO);
        dueRow(x, 0, 1, 2);
    }

    private static void letters() {
        says(2, "A letter (32 to 126, as in ASCII) comes behind THE TEXT: how long it is.");
        numbers("write", 32, 126);
        BedsThatFit x = new BedsThatFit();
        for (int letter = 32; letter <= 126; letter++) {
            due("letter " + letter, x.write(letter), letter - 31);
        }
        due("a letter and 256", x.write('b' + 256), BAD);
        due("a letter and 65536", x.write('b' + 65536), BAD);
        due("a letter less 65536", x.write('b' - 65536), BAD);
        due("as long as before", x.count(8), 95);
    }

    private static void fullText() {
        says(2, "BAD; FULL.");
        BedsThatFit x = new BedsThatFit();
        put(x, FULL_TEXT.substring(1));
        due("199 letters", x.count(8), 199);
        due("the 200th", x.write(';'), 200);
        due("the 201st", x.write(';'), FULL);
        due("200 still", x.count(8), 200);
        refused(House.CROWDED, FULL, "write", 'b');
        refused(House.CROWDED, FULL, "write", ';');
        refused(House.CROWDED, BAD, "write", 31);
        refused(House.CROWDED, BAD, "write", 127);
    }

    private static void wiped() {
        says(3, "THE TEXT is empty: how long it was.");
        due("empty", new BedsThatFit().wipe(), 0);
        changesNothing(House.NEW, "wipe");
        BedsThatFit one = new BedsThatFit();
        put(one, "b");
        due("one letter", one.wipe(), 1);
        BedsThatFit x = made(House.CROWDED);
        due("full", x.wipe(), 200);
        dueCounts(x, 4, 7, 4, 4, 1, 6, 8, 2, 0);
        due("empty now", x.wipe(), 0);
        due("no fault", x.fault(), NONE);
        due("nothing to lay", x.lay(), NO);
        due("room again", x.write('b'), 1);
        put(x, "60");
        due("nothing stands behind it from before", x.fault(), 0);
        x.wipe();
        put(x, FULL_TEXT);
        due("for 200", x.count(8), 200);
        due("and no more", x.write('b'), FULL);
    }

    private static void dueFault(String text, int want) {
        BedsThatFit x = new BedsThatFit();
        put(x, text);
        due("fault of " + text, x.fault(), want);
        due("and again", x.fault(), want);
    }

    /** Items that are so, and items that are not, behind a text that is. */
    private static void dueItems(String ahead, String[] so, String[] not) {
        for (String item : so) {
            dueFault(ahead + item, NONE);
        }
        for (String item : not) {
            dueFault(ahead + item, ahead.length());
            dueFault(ahead + item + "k1;", ahead.length());
        }
    }

    private static void faultOfNothing() {
        says(4, "FAULT. NONE.");
        dueFault("", NONE);
        dueFault("b60;", NONE);
        dueFault("g60,0,0;", NONE);
        dueFault(FIRST_INN, NONE);
        dueFault(";", 0);
        changesNothingAnywhere("fault");
    }

    private static void formOfItems() {
        says(4, "each a letter, then numbers (one or two figures) parted by , and a ; behind the last one");
        dueItems("", new String[] {"k1;", "k01;", "f5,9;", "f05,09;", "g40,9,4;", "g40,09,04;"},
            new String[] {"k;", "k001;", "k,;", "k1,;", "k,1;", "k1.", "k1:", "k 1;", "k1 ;", " k1;", "1;", ";", ",", "K1;",
                "kk1;", "k1a;", "k+1;", "k-1;", "k1/;", "f5;9;", "f5 9;", "f5.9;", "f5,,9;", "f5,009;", "f005,9;", "f,9;",
                "f5,;", "g40,0,000;", "g40,,0;", "g40,0,;", "g,0,0;", "g040,0,0;", "h,;", "b;", "r;"});
        dueItems("", new String[] {}, new String[] {"B60;", "F1,1;", "G50,0,0;", "R50;", "a1;", "c1;", "e1;", "i1;", "j1;",
            "l1;", "q1;", "s1;", "z1;", "~1;", "!1;"});
        for (String unended : new String[] {"b", "b6", "b60", "f", "f1", "f1,", "f1,1", "g50,0,0", "g50,0,", "g50,0", "k", "k1", "r60"}) {
            dueFault(unended, 0);
            dueFault("b60;" + unended, 4);
        }
    }

    private static void howManyNumbers() {
        says(4, "fN,M on night N (0 to 29)");
        dueItems(GUESTS, new String[] {"b60;", "f1,2;", "h1,2;", "k1;", "r60;"},
            new String[] {"b60,0;", "b60,60;", "b60,0,0;", "f1;", "f1,2,3;", "f1,2,3,4;", "h1;", "h1,2,3;", "k1,1;", "r60,60;"});
        dueItems("", new String[] {"g60,1,2;"}, new String[] {"g60;", "g60,1;", "g60,1,2,3;", "g60,1,2,3,4;"});
    }

    private static void placeOfFault() {
        says(4, "FAULT: the place of the first letter of the first ITEM that is not so.");
        dueFault("b39;", 0);
        dueFault("b60;b39;", 4);
        dueFault("b60;f1,1;g60,0,5;", 9);
        dueFault("b60;b39;b38;k9;", 4);
        dueFault("b39;b60;", 0);
        dueFault("b60;;", 4);
        dueFault("b60;k1;k", 7);
        dueFault("b60;k1;k3;k1;", 7);
    }

    private static void bedsTold() {
        says(4, "bL a BED of L inches (40 to 99); 4 at most");
        dueItems("", new String[] {"b40;", "b99;"}, new String[] {"b39;", "b38;", "b9;", "b0;", "b00;", "b100;", "b140;"});
        dueItems("b60;b60;b60;", new String[] {"b60;"}, new String[] {"b39;"});
        dueItems("b60;b60;b60;b60;", new String[] {"k1;"}, new String[] {"b60;", "b99;"});
        BedsThatFit x = inn("b40;b99;b41;b98;g50,0,0;");
        int[] lengths = {40, 99, 41, 98};
        for (int b = 0; b < 4; b++) {
            due("bed " + b, x.bed(b, 0), lengths[b]);
        }
    }

    private static void feastsTold() {
        says(4, "on night N (0 to 29) BEDS are M (0 to 9) inches longer; 4 at most (of one night M of all together)");
        dueItems("", new String[] {"f0,0;", "f29,9;", "f0,9;", "f29,0;"},
            new String[] {"f30,0;", "f99,0;", "f0,10;", "f0,99;", "f30,10;", "f100,0;"});
        dueItems("f1,1;f1,1;f1,1;", new String[] {"f1,1;"}, new String[] {"f30,0;"});
        dueItems("f1,1;f1,1;f1,1;f1,1;", new String[] {"k1;"}, new String[] {"f1,1;", "f2,0;"});
        dueItems("f1,0;f2,0;f3,0;f4,0;", new String[] {"k1;"}, new String[] {"f5,0;"});
        BedsThatFit x = inn("b99;f0,9;f0,9;f0,9;f0,9;g60,0,0;");
        due("all together", x.bed(0, 0), 135);
        due("the next night", x.bed(0, 1), 99);
    }

    private static void guestsTold() {
        says(4, "gL,T,K a GUEST of L inches (40 to 99), who comes on night T (0 to 9), of KIND K "
            + "(0 PLAIN, 1 BENT, 2 CHILD, 3 KNOWN, 4 GROWING); 7 at most");
        dueItems("", new String[] {"g40,0,0;", "g99,9,4;", "g40,9,0;", "g99,0,4;"},
            new String[] {"g39,0,0;", "g9,0,0;", "g0,0,0;", "g100,0,0;", "g50,10,0;", "g50,99,0;", "g50,0,5;", "g50,0,9;", "g50,0,10;"});
        String six = GUESTS.substring(8);
        dueItems(six, new String[] {"g50,0,0;"}, new String[] {"g39,0,0;", "g50,10,0;", "g50,0,5;"});
        dueItems(GUESTS, new String[] {"k1;"}, new String[] {"g50,0,0;", "g99,9,4;"});
        due("seven", inn("b60;" + GUESTS).count(1), 7);
    }

    private static void friendsTold() {
        says(4, "hI,J GUEST I has GUEST J (both told ahead, unlike) for a friend (any number of these; the same again as well)");
        dueItems("", new String[] {}, new String[] {"h0,1;", "h0,0;"});
        dueItems("g50,0,0;", new String[] {}, new String[] {"h0,1;", "h1,0;", "h0,0;", "h0,1;g50,0,0;", "h1,0;g50,0,0;"});
        dueItems("g50,0,0;g50,0,0;", new String[] {"h0,1;", "h1,0;", "h00,01;", "h0,1;h0,1;", "h0,1;h1,0;"},
            new String[] {"h0,0;", "h1,1;", "h0,2;", "h2,0;", "h2,2;", "h0,9;", "h0,99;", "h99,0;"});
        dueItems(GUESTS, new String[] {"h0,6;", "h6,0;", "h5,6;"}, new String[] {"h6,6;", "h7,0;", "h0,7;", "h7,8;"});
        StringBuilder many = new StringBuilder("b60;" + GUESTS);
        while (many.length() + 5 <= 200) {
            many.append(many.length() % 2 == 0 ? "h0,6;" : "h6,0;");
        }
        dueFault(many.toString(), NONE);
        BedsThatFit x = inn(many.toString());
        due("friends of 0", x.guest(0, 4), 64);
        due("friends of 6", x.guest(6, 4), 1);
        due("friends of 3", x.guest(3, 4), 0);
    }

    private static void lawsTold() {
        says(4, "0 nobody, 1 a friend, 2 anybody can be named (1 without; the last one)");
        dueItems("", new String[] {"k0;", "k1;", "k2;", "k0;k1;k2;k0;k1;"}, new String[] {"k3;", "k4;", "k9;", "k10;", "k99;"});
        due("without", inn("b60;g60,0,0;").count(4), 1);
        for (int kind = 0; kind <= 2; kind++) {
            due("k" + kind, inn("b60;g60,0,0;k" + kind + ";").count(4), kind);
            due("the last one", inn("k2;k0;b60;k1;g60,0,0;k" + kind + ";").count(4), kind);
        }
    }

    private static void rivalsTold() {
        says(4, "rL the RIVAL has a bed of L inches (40 to 99); 4 at most (the same again as well)");
        dueItems("", new String[] {"r40;", "r99;"}, new String[] {"r39;", "r9;", "r0;", "r100;"});
        dueItems("r50;r50;r50;", new String[] {"r50;", "r40;"}, new String[] {"r39;"});
        dueItems("r50;r50;r50;r50;", new String[] {"k1;"}, new String[] {"r50;", "r60;"});
        due("four alike", inn("b60;g60,0,0;r50;r50;r50;r50;").count(3), 4);
    }

    private static void fullTextRead() {
        says(4, "A TEXT is letters (200 at most)");
        due("the full text has 200", FULL_TEXT.length(), 200);
        dueFault(FULL_TEXT, NONE);
        dueFault(FULL_TEXT.substring(0, 199), 197);
        dueFault(FULL_TEXT.substring(0, 197) + "k3;", 197);
        dueFault(FULL_TEXT.substring(0, 197) + "k1x", 197);
        dueFault("k1;".repeat(66) + "k1", 198);
        dueFault("k1;".repeat(66) + "k1;", 198);
        dueFault("k01;".repeat(50), NONE);
        dueFault("k1;".repeat(65) + "k01;x", 199);
        due("the last item counts", inn(FULL_TEXT.substring(0, 197) + "k0;").count(4), 0);
    }

    private static void laidOrNot() {
        says(5, "LAID is a TEXT without FAULT, of a BED and a GUEST at least (NO else");
        String[] not = {"", "b60;", "g60,0,0;", "k1;f1,1;r50;", "b60;g60,0,0", "b60;g60,0,0;x", "b39;b60;g60,0,0;", "xb60;g60,0,0;",
            "b60;b60;b60;b60;k2;f1,1;r60;", GUESTS + "h0,1;"};
        for (String text : not) {
            refused(x -> {
                x.wear(0, 3);
                x.keep();
                x.move(2, 0);
                x.left(0, 0, 0);
                put(x, text);
            }, NO, "lay");
        }
        refused(House.NEW, NO, "lay");
        refused(House.BUSY, NO, "lay");
        due("a bed and a guest", inn("b60;g60,0,0;").count(1), 1);
        due("the guest first", inn("g60,0,0;b60;").count(0), 1);
    }

    private static void laidAnew() {
        says(5, "LAID: how many GUESTS; nothing WORN, LEFT, UNDONE, KEPT. NO.");
        for (int guests = 1; guests <= 7; guests++) {
            BedsThatFit x = new BedsThatFit();
            put(x, "b60;" + GUESTS.substring(0, 8 * guests));
            due(guests + " guests", x.lay(), guests);
            due("counted", x.count(1), guests);
            due("again", x.lay(), guests);
        }
        BedsThatFit x = made(House.CROWDED);
        due("the full text again", x.lay(), 7);
        dueCounts(x, 4, 7, 4, 4, 1, 0, 0, 0, 200);
        dueRow(x, 0, 1, 2, 3, 4, 5, 6);
        for (int i = 0; i < 7; i++) {
            due("nothing worn", x.guest(i, 3), 100);
        }
        due("comes as told", x.guest(3, 1), 0);
        due("nothing undone", x.undo(), NO);
        due("nothing kept", x.back(), NO);
        due("nothing left", x.slept(0), BAD);
        due("one way", x.sure(-1), 1);
    }

    private static void laidWithoutWhatWas() {
        says(5, "LAID is a TEXT");
        BedsThatFit x = made(House.CROWDED);
        x.order(0);
        x.wipe();
        put(x, "g70,0,0;g60,0,4;b60;");
        due("a smaller inn", x.lay(), 2);
        dueCounts(x, 1, 2, 0, 0, 1, 0, 0, 0, 20);
        for (int n = 0; n <= 29; n++) {
            due("no feast of before", x.bed(0, n), 60);
        }
        due("no friends of before", x.guest(0, 4) + x.guest(1, 4), 0);
        due("no bed of before", x.bed(1, 0), BAD);
        due("no guest of before", x.guest(2, 0), BAD);
        due("no rival of before", x.rival(), 0);
        due("no order of before", x.order(-1), 10);
        due("told now", x.guest(1, 2), 4);
    }

    /** Whatever was told, tried and laid ahead of it, an inn is as it would be in a new object. */
    private static void laidAsInANewObject() {
        says(5, "LAID is a TEXT without FAULT");
        String text = "b61;b70;g60,0,1;g50,0,4;g70,1,2;h0,1;";
        Consumer<BedsThatFit> anew = x -> {
            x.wipe();
            put(x, text);
            x.lay();
        };
        for (Seen look : Seen.values()) {
            List<Integer> due = look.of(made(anew));
            mustBe("laid behind another, by " + look, look.of(made(House.CROWDED.andThen(anew))).equals(due));
            mustBe("laid twice, by " + look, look.of(made(House.CROWDED.andThen(anew).andThen(BedsThatFit::lay))).equals(due));
            for (String other : new String[] {FULL_TEXT, "b99;f0,9;f29,9;f14,9;f28,9;g99,9,3;k0;r50;"}) {
                Consumer<BedsThatFit> read = x -> {
                    put(x, other);
                    x.fault();
                };
                mustBe("behind one that was only read, by " + look, look.of(made(read.andThen(anew))).equals(due));
            }
        }
    }

    private static void bedOnNights() {
        says(6, "How long a BED is on night n (0 to 29). BAD.");
        numbers("bed", 0, LAST_BED, 0, 29);
        changesNothingAnywhere("bed", 0, 0);
        BedsThatFit x = inn("b60;b70;f0,1;f29,9;f14,2;f14,3;g60,0,0;");
        for (int n = 0; n <= 29; n++) {
            int longer = n == 0 ? 1 : n == 29 ? 9 : n == 14 ? 5 : 0;
            due("bed 0, night " + n, x.bed(0, n), 60 + longer);
            due("bed 1, night " + n, x.bed(1, n), 70 + longer);
        }
    }

    private static void guestAsked() {
        says(7, "what he WEARS and 100 (3), friends, as bits (4), his place in THE ROW (5). BAD.");
        numbers("guest", 0, LAST_GUEST, 0, 5);
        changesNothingAnywhere("guest", 0, 0);
        BedsThatFit x = inn("b60;g40,9,4;g99,0,0;");
        int[][] want = {{40, 9, 4, 100, 0, 0}, {99, 0, 0, 100, 0, 1}};
        for (int i = 0; i < 2; i++) {
            for (int what = 0; what <= 5; what++) {
                due("guest(" + i + ", " + what + ")", x.guest(i, what), want[i][what]);
            }
        }
        x.wear(0, -9);
        x.wear(1, 9);
        due("9 less", x.guest(0, 3), 91);
        due("9 more", x.guest(1, 3), 109);
        due("inches as told", x.guest(0, 0), 40);
        BedsThatFit all = inn("b60;" + GUESTS + "h3,0;h3,1;h3,2;h3,4;h3,5;h3,6;");
        due("a friend of all others", all.guest(3, 4), 127 - 8);
        due("who have none themselves", all.guest(0, 4), 0);
    }

    private static void harmNumbers() {
        says(8, "HARM of a GUEST in a BED on night n. BAD.");
        numbers("harm", 0, LAST_GUEST, 0, LAST_BED, 0, 29);
        changesNothingAnywhere("harm", 0, 0, 0);
    }

    /** HARM by how much longer (or, below 0, shorter) than the bed he is: pairs. */
    private static void dueHarm(int kind, int... pairs) {
        for (int k = 0; k + 1 < pairs.length; k += 2) {
            BedsThatFit x = inn("b70;g" + (70 + pairs[k]) + ",0," + kind + ";");
            due("harm of kind " + kind + ", longer by " + pairs[k], x.harm(0, 0, 0), pairs[k + 1]);
            due("as he lies", x.lies(0, 2), pairs[k + 1]);
        }
    }

    private static void harmOfPlain() {
        says(8, "by how many inches he is longer or shorter");
        dueHarm(0, -30, 30, -7, 7, -1, 1, 0, 0, 1, 1, 7, 7, 29, 29);
    }

    private static void harmOfBent() {
        says(8, "for a BENT one that is longer 6 fewer, 0 at least");
        dueHarm(1, -30, 30, -7, 7, -6, 6, -1, 1, 0, 0, 1, 0, 5, 0, 6, 0, 7, 1, 29, 23);
    }

    private static void harmOfChild() {
        says(8, "for a CHILD that is shorter 2 times as many");
        dueHarm(2, -30, 60, -2, 4, -1, 2, 0, 0, 1, 1, 2, 2, 29, 29);
    }

    private static void harmOfKnown() {
        says(8, "for a KNOWN one 2 fewer, 0 at least");
        dueHarm(3, -30, 28, -3, 1, -2, 0, -1, 0, 0, 0, 1, 0, 2, 0, 3, 1, 29, 27);
    }

    private static void harmOfGrowing() {
        says(8, "a GROWING one is longer by 1 with each night since that on which he comes (shorter by none ahead of it)");
        dueHarm(4, -30, 30, -1, 1, 0, 0, 1, 1, 29, 29);
        BedsThatFit x = inn("b60;g60,3,4;g60,3,0;");
        for (int n = 0; n <= 29; n++) {
            due("growing, night " + n, x.harm(0, 0, n), n <= 3 ? 0 : n - 3);
            due("plain, night " + n, x.harm(1, 0, n), 0);
        }
        x.come(0, 9);
        due("the night on which he comes", x.harm(0, 0, 9), 0);
        due("the next", x.harm(0, 0, 10), 1);
        due("the last", x.harm(0, 0, 29), 20);
        x.come(0, 0);
        due("the last, from night 0", x.harm(0, 0, 29), 29);
    }

    private static void harmAsWorn() {
        says(8, "as told, and what he WEARS (9 less to 9 more)");
        BedsThatFit x = inn("b60;f1,9;g60,0,0;g60,0,1;g60,0,2;g60,0,3;g60,0,4;");
        int[] more = {9, 3, 9, 7, 9};
        int[] less = {9, 9, 18, 7, 9};
        for (int i = 0; i < 5; i++) {
            x.wear(i, 9);
            due("9 more, kind " + i, x.harm(i, 0, 0), more[i]);
            due("9 more in a longer bed", x.harm(i, 0, 1), i == 4 ? 1 : 0);
            x.wear(i, -9);
            due("9 less, kind " + i, x.harm(i, 0, 0), less[i]);
        }
    }
}
