import java.util.ArrayList;
import java.util.List;

/** Edges of nights and of changes (promises 9 to 15). */
final class NightEdges extends Edges {
    private static final String SEVEN = "g60,0,0;g61,0,0;g62,0,0;g63,0,0;g64,0,0;g65,0,0;g66,0,0;";

    private NightEdges() {
    }

    static void run() {
        liesNumbers();
        nightByNight();
        bedByBed();
        calledOnceCome();
        namedOnceCome();
        namedByLaw();
        leastHarmed();
        lessThanHisOwn();
        waitsOn();
        whoLies();
        allOfThem();
        movedAnywhere();
        movedAlone();
        wornInches();
        nightsToCome();
        nothingUndone();
        lastEightUndone();
        undoneOneByOne();
        undoneAndChangedAgain();
        oldestOfAnyForgotten();
    }

    private static void liesNumbers() {
        says(9, "who NAMED him (3; NONE), how often he was CALLED (4). NONE: he never does; BAD.");
        numbers("lies", 0, LAST_GUEST, 0, 4);
        changesNothingAnywhere("lies", 0, 0);
        BedsThatFit x = new BedsThatFit();
        dueLies(x, 0, 1, 0, 6, NONE, 3);
        dueLies(x, 1, 0, 0, 0, 0, 0);
        dueLies(x, 2, 0, 1, 3, 0, 0);
    }

    private static void nightByNight() {
        says(9, "A NIGHT, from night 0 on, to night 29");
        BedsThatFit x = inn("b60;" + SEVEN + "k0;");
        BedsThatFit y = inn("b60;" + SEVEN.replace(",0,", ",9,") + "k0;");
        for (int i = 0; i < 7; i++) {
            dueLies(x, i, i, 0, i, NONE, 1);
            dueLies(y, i, 9 + i, 0, i, NONE, 1);
        }
    }

    private static void bedByBed() {
        says(9, "for each BED, 0 first");
        BedsThatFit x = inn("b60;b60;b60;b60;" + SEVEN + "k0;");
        for (int i = 0; i < 7; i++) {
            dueLies(x, i, i / 4, i % 4, i, NONE, 1);
        }
    }

    private static void calledOnceCome() {
        says(9, "the first of THE ROW who has come (tonight or ahead) and has not lain yet is CALLED");
        BedsThatFit tonight = inn("b60;g60,1,0;g60,0,0;g60,2,0;k0;");
        dueLies(tonight, 1, 0, 0, 0, NONE, 1);
        dueLies(tonight, 0, 1, 0, 0, NONE, 1);
        dueLies(tonight, 2, 2, 0, 0, NONE, 1);
        BedsThatFit ahead = inn("b60;g60,0,0;g60,0,0;g60,1,0;k0;");
        dueLies(ahead, 1, 1, 0, 0, NONE, 1);
        dueLies(ahead, 2, 2, 0, 0, NONE, 1);
        ahead.move(2, 0);
        dueLies(ahead, 2, 1, 0, 0, NONE, 1);
        dueLies(ahead, 1, 2, 0, 0, NONE, 1);
        BedsThatFit nobody = inn("b60;b60;g60,9,0;k0;");
        dueLies(nobody, 0, 9, 0, 0, NONE, 1);
    }

    private static void namedOnceCome() {
        says(9, "he NAMES, of others who have come and have not lain yet");
        BedsThatFit notYet = inn("b60;g66,0,0;g60,1,0;h0,1;");
        dueLies(notYet, 0, 0, 0, 6, NONE, 1);
        dueLies(notYet, 1, 1, 0, 0, NONE, 1);
        BedsThatFit tonight = inn("b60;g66,1,0;g60,1,0;h0,1;");
        dueLies(tonight, 1, 1, 0, 0, 0, 0);
        dueLies(tonight, 0, 2, 0, 6, NONE, 2);
        BedsThatFit lain = inn("b60;b60;g60,0,0;g66,0,0;h1,0;");
        dueLies(lain, 0, 0, 0, 0, NONE, 1);
        dueLies(lain, 1, 0, 1, 6, NONE, 1);
    }

    private static void namedByLaw() {
        says(9, "friends of his by the LAW of 1, any by that of 2");
        String guests = "b60;g66,0,0;g60,0,0;g61,0,0;";
        BedsThatFit nobody = inn(guests + "h0,1;h0,2;k0;");
        dueLies(nobody, 0, 0, 0, 6, NONE, 1);
        BedsThatFit friendless = inn(guests + "h1,0;h2,0;k1;");
        dueLies(friendless, 0, 0, 0, 6, NONE, 1);
        BedsThatFit friend = inn(guests + "h0,2;k1;");
        dueLies(friend, 2, 0, 0, 1, 0, 0);
        dueLies(friend, 0, 1, 0, 6, NONE, 2);
        dueLies(friend, 1, 2, 0, 0, NONE, 1);
        BedsThatFit any = inn(guests + "h0,2;k2;");
        dueLies(any, 1, 0, 0, 0, 0, 0);
        dueLies(any, 2, 1, 0, 1, 0, 0);
        dueLies(any, 0, 2, 0, 6, NONE, 3);
    }

    private static void leastHarmed() {
        says(9, "the one of least HARM in this BED, of several the lowest");
        BedsThatFit x = inn("b60;g70,0,0;g62,0,0;g61,0,0;g59,0,0;h0,1;h0,2;h0,3;");
        due("the lowest of two", x.who(0, 0), 2);
        x.move(3, 1);
        due("not the first of the row", x.who(0, 0), 2);
        x.wear(3, 1);
        due("the least harmed", x.who(0, 0), 3);
        due("in this bed, as long as it is tonight", inn("b60;f0,5;g66,0,0;g60,0,0;k2;").who(0, 0), 0);
        due("and not as it is told", inn("b60;f0,5;g60,0,0;g66,0,0;k2;").who(0, 0), 1);
        BedsThatFit y = inn("b60;g61,0,0;g59,0,0;g70,0,0;k2;");
        y.move(2, 0);
        due("lower than he himself", y.who(0, 0), 0);
        dueLies(y, 0, 0, 0, 1, 2, 0);
    }

    private static void lessThanHisOwn() {
        says(9, "if that is less than his own");
        dueLies(inn("b60;g61,0,0;g59,0,0;k2;"), 0, 0, 0, 1, NONE, 1);
        dueLies(inn("b60;g61,0,0;g58,0,0;k2;"), 0, 0, 0, 1, NONE, 1);
        dueLies(inn("b60;g61,0,0;g60,0,0;k2;"), 1, 0, 0, 0, 0, 0);
        dueLies(inn("b60;g60,0,0;g60,0,0;k2;"), 0, 0, 0, 0, NONE, 1);
    }

    private static void waitsOn() {
        says(9, "that one LIES there, and he waits on; else he LIES there himself");
        BedsThatFit x = inn("b60;b60;b60;b60;g70,0,0;g60,0,0;g60,0,0;g60,0,0;g60,0,0;g60,0,0;g60,0,0;k2;");
        dueLies(x, 0, 1, 2, 10, NONE, 7);
        for (int i = 1; i < 7; i++) {
            dueLies(x, i, (i - 1) / 4, (i - 1) % 4, 0, 0, 0);
        }
        BedsThatFit twice = inn("b60;g61,0,0;g70,0,0;g60,0,0;h1,2;h1,0;");
        twice.move(1, 0);
        dueLies(twice, 2, 0, 0, 0, 1, 0);
        dueLies(twice, 0, 1, 0, 1, 1, 0);
        dueLies(twice, 1, 2, 0, 10, NONE, 3);
    }

    private static void whoLies() {
        says(10, "Who LIES in a BED on night n. NONE; BAD.");
        numbers("who", 0, LAST_BED, 0, 29);
        changesNothingAnywhere("who", 0, 0);
        BedsThatFit x = inn("b60;b60;g60,2,0;g60,2,0;g60,2,0;k0;");
        for (int n = 0; n <= 29; n++) {
            due("bed 0, night " + n, x.who(0, n), n == 2 ? 0 : n == 3 ? 2 : NONE);
            due("bed 1, night " + n, x.who(1, n), n == 2 ? 1 : NONE);
        }
    }

    private static void dueAll(BedsThatFit x, int... want) {
        for (int what = 0; what < want.length; what++) {
            due("all(" + what + ")", x.all(what), want[what]);
        }
    }

    private static void allOfThem() {
        says(11, "ALL (what = 0), how many LIE (1), without HARM (2), the greatest HARM of one (3). BAD.");
        numbers("all", 0, 3);
        changesNothingAnywhere("all", 0);
        dueAll(inn("b60;g60,0,0;"), 0, 1, 1, 0);
        dueAll(inn("b60;g61,0,0;"), 1, 1, 0, 1);
        dueAll(inn("b60;" + SEVEN + "k0;"), 21, 7, 1, 6);
        BedsThatFit harmed = inn("b99;f0,9;f0,9;f0,9;f0,9;g40,0,2;");
        harmed.wear(0, -9);
        dueAll(harmed, 208, 1, 0, 208);
        says(11, "ALL: HARM of all that LIE in nights 0 to 29 together");
        dueAll(inn("b60;" + SEVEN.replace(",0,", ",9,") + "k0;"), 21, 7, 1, 6);
    }

    private static void movedAnywhere() {
        says(12, "A GUEST is MOVED to a place (0 the first): the place where he was. BAD.");
        numbers("move", 0, LAST_GUEST, 0, LAST_GUEST);
        says(12, "A GUEST can be MOVED to a place of THE ROW (the others stay as they are among themselves)");
        for (int i = 0; i < 7; i++) {
            for (int place = 0; place < 7; place++) {
                BedsThatFit x = inn("b60;" + SEVEN);
                x.move(5, 1);
                List<Integer> row = new ArrayList<>(List.of(0, 5, 1, 2, 3, 4, 6));
                due("the place of " + i, x.move(i, place), row.indexOf(i));
                row.remove((Integer) i);
                row.add(place, i);
                dueRow(x, row.stream().mapToInt(g -> g).toArray());
                due("a change", x.count(6), 2);
            }
        }
    }

    private static void movedAlone() {
        says(12, "(BEDS, GUESTS, places: such as there are)");
        BedsThatFit one = inn("b60;g60,0,0;");
        due("the only place", one.move(0, 0), 0);
        due("no second one", one.move(0, 1), BAD);
        due("nor one ahead", one.move(0, -1), BAD);
        due("one change", one.count(6), 1);
    }

    private static void wornInches() {
        says(13, "A GUEST WEARS c inches (-9 to 9): what he did, and 100. BAD.");
        numbers("wear", 0, LAST_GUEST, -9, 9);
        BedsThatFit x = new BedsThatFit();
        int worn = 0;
        for (int c = -9; c <= 9; c++) {
            due("wear " + c, x.wear(1, c), 100 + worn);
            worn = c;
            due("worn", x.guest(1, 3), 100 + c);
            due("by the others nothing", x.guest(0, 3) + x.guest(2, 3), 200);
        }
        due("9 again", x.wear(1, 9), 109);
        due("eight of twenty", x.count(6), 8);
    }

    private static void nightsToCome() {
        says(14, "A GUEST comes on night t (0 to 9): on which he did. BAD.");
        numbers("come", 0, LAST_GUEST, 0, 9);
        BedsThatFit x = inn("b60;g60,5,0;g60,4,0;");
        int night = 5;
        for (int t = 0; t <= 9; t++) {
            due("come " + t, x.come(0, t), night);
            night = t;
            due("comes", x.guest(0, 1), t);
            due("the other one as before", x.guest(1, 1), 4);
            due("lies", x.lies(0, 0), t);
        }
        due("9 again", x.come(0, 9), 9);
    }

    private static void nothingUndone() {
        says(15, "UNDONE: how many more can be. NO.");
        refused(House.NEW, NO, "undo");
        refused(x -> {
            x.wear(0, 1);
            x.keep();
            x.undo();
            x.left(0, 0, 0);
            put(x, "b60;g60,0,0;");
        }, NO, "undo");
        refused(x -> {
            x.wear(0, 1);
            x.undo();
        }, NO, "undo");
        refused(x -> {
            x.keep();
            x.wear(0, 1);
            x.back();
        }, NO, "undo");
        refused(x -> {
            put(x, "b60;g60,0,0;g60,0,0;");
            x.wear(0, 1);
            x.lay();
        }, NO, "undo");
        refused(x -> {
            x.wear(0, 10);
            x.move(0, 3);
            x.come(0, -1);
        }, NO, "undo");
    }

    private static void lastEightUndone() {
        says(15, "UNDONE is the latest of these (the last 8 can be)");
        for (int changes = 0; changes <= 18; changes++) {
            BedsThatFit x = new BedsThatFit();
            for (int k = 1; k <= changes; k++) {
                x.wear(0, k - 9);
            }
            int most = Math.min(changes, 8);
            due("so many can be", x.count(6), most);
            for (int k = 1; k <= most; k++) {
                due("how many more", x.undo(), most - k);
                due("counted", x.count(6), most - k);
                due("worn then", x.guest(0, 3), changes == k ? 100 : 91 + changes - k);
            }
            due("no more", x.undo(), NO);
            due("still worn", x.guest(0, 3), changes <= 8 ? 100 : 91 + changes - 8);
        }
    }

    private static void undoneOneByOne() {
        says(15, "A GUEST can be MOVED to a place of THE ROW (the others stay as they are among themselves); "
            + "WEAR other inches; come on another night. UNDONE is the latest of these");
        BedsThatFit x = inn("b60;g60,4,0;g60,0,0;g60,0,0;");
        x.move(2, 0);
        x.come(0, 7);
        x.move(0, 2);
        x.wear(1, 4);
        x.come(0, 9);
        due("come", x.undo(), 4);
        due("comes", x.guest(0, 1), 7);
        due("worn still", x.guest(1, 3), 104);
        due("wear", x.undo(), 3);
        due("worn", x.guest(1, 3), 100);
        dueRow(x, 2, 1, 0);
        due("move", x.undo(), 2);
        dueRow(x, 2, 0, 1);
        due("the first come", x.undo(), 1);
        due("comes as told", x.guest(0, 1), 4);
        dueRow(x, 2, 0, 1);
        due("the first move", x.undo(), 0);
        dueRow(x, 0, 1, 2);
        due("no more", x.undo(), NO);
        x.move(1, 1);
        x.wear(1, 0);
        x.come(1, 0);
        due("changes to what is so already count", x.count(6), 3);
        due("and can be undone", x.undo(), 2);
    }

    private static void undoneAndChangedAgain() {
        says(15, "the last 8 can be");
        BedsThatFit x = new BedsThatFit();
        for (int c = 1; c <= 8; c++) {
            x.wear(1, c);
        }
        for (int k = 7; k >= 5; k--) {
            due("undone", x.undo(), k);
        }
        for (int t = 1; t <= 5; t++) {
            x.come(1, t);
        }
        due("eight of ten", x.count(6), 8);
        for (int t = 4; t >= 0; t--) {
            due("come", x.undo(), 3 + t);
            due("comes", x.guest(1, 1), t);
        }
        for (int c = 4; c >= 2; c--) {
            due("wear", x.undo(), c - 2);
            due("worn", x.guest(1, 3), 100 + c);
        }
        due("no more", x.undo(), NO);
        due("as the oldest left it", x.guest(1, 3), 102);
    }

    /** The k-th of changes of all kinds to all guests. */
    private static void change(BedsThatFit x, int k) {
        int i = k * 2 % 3;
        switch (k % 4) {
            case 0: x.wear(i, k); break;
            case 1: x.come(i, k); break;
            case 2: x.move(i, k % 3); break;
            default: x.wear(i, -k); break;
        }
    }

    private static void oldestOfAnyForgotten() {
        says(15, "(the last 8 can be)");
        for (int changes = 0; changes <= 9; changes++) {
            BedsThatFit x = new BedsThatFit();
            for (int k = 0; k < changes; k++) {
                change(x, k);
            }
            for (int undone = 1; undone <= Math.min(8, changes); undone++) {
                x.undo();
                BedsThatFit without = new BedsThatFit();
                for (int k = 0; k < changes - undone; k++) {
                    change(without, k);
                }
                for (int i = 0; i < 3; i++) {
                    due("worn", x.guest(i, 3), without.guest(i, 3));
                    due("comes", x.guest(i, 1), without.guest(i, 1));
                    due("place", x.guest(i, 5), without.guest(i, 5));
                }
            }
        }
    }
}
