import java.util.Arrays;
import java.util.EnumMap;
import java.util.List;
import java.util.Map;
import java.util.function.Consumer;

/** What the tests of edges share: numbers just within and just beyond, and calls that change nothing. */
abstract class Edges extends Check {
    /** The last BED, GUEST (or place), LEFT one: such as there are. */
    static final int LAST_BED = 1_000_001, LAST_GUEST = 1_000_002, LAST_LEFT = 1_000_003;

    /** Objects in which things stand differently. */
    enum House implements Consumer<BedsThatFit> {
        NEW {
            @Override
            public void accept(BedsThatFit x) {
            }
        },
        BUSY {
            @Override
            public void accept(BedsThatFit x) {
                put(x, "b60;b66;f1,4;g62,0,0;g70,1,4;g58,0,2;h0,2;r61;k2;");
                x.lay();
                put(x, "k");
                x.wear(0, 3);
                x.move(2, 0);
                x.come(1, 2);
                x.keep();
                x.wear(1, -2);
                x.left(0, 0, 5);
                x.left(1, 1, 3);
            }
        },
        CROWDED {
            @Override
            public void accept(BedsThatFit x) {
                put(x, FULL_TEXT);
                x.lay();
                for (int i = 0; i < 7; i++) {
                    x.wear(i, i - 3);
                }
                x.keep();
                x.move(6, 0);
                x.come(3, 9);
                x.keep();
                for (int k = 0; k < 6; k++) {
                    x.left(k % 4, k, k);
                }
            }
        };

        private final Map<Seen, List<Integer>> seen = new EnumMap<>(Seen.class);

        List<Integer> seenBy(Seen look) {
            return seen.computeIfAbsent(look, l -> l.of(made(this)));
        }
    }

    /** 200 letters: 4 BEDS, 4 feasts, 7 GUESTS, 4 beds of the RIVAL, 16 friends, 4 laws. */
    static final String FULL_TEXT = "b60;b66;b72;b99;" + "f1,4;f2,9;f2,1;f3,0;"
        + "g62,0,0;g70,1,1;g58,0,2;g40,0,3;g66,2,4;g99,3,0;g81,1,4;" + "r61;r40;r99;r61;" + "k0;k1;k2;"
        + "h0,1;h1,0;h0,2;h0,6;h6,0;h6,1;h5,4;h4,5;h3,2;h2,3;h0,1;h1,5;h5,1;h2,6;h6,2;h4,3;" + "k1;";

    static BedsThatFit made(Consumer<BedsThatFit> before) {
        BedsThatFit x = new BedsThatFit();
        before.accept(x);
        return x;
    }

    private static String named(String call, int... a) {
        return call + Arrays.toString(a).replace('[', '(').replace(']', ')');
    }

    /** The call answers so and changes nothing. */
    static void refused(Consumer<BedsThatFit> before, int want, String call, int... a) {
        due(named(call, a), Caller.call(made(before), call, a), want);
        changesNothing(before, call, a);
    }

    /** All that can be seen behind the call, then and later, is as without it. */
    static void changesNothing(Consumer<BedsThatFit> before, String call, int... a) {
        for (Seen look : Seen.values()) {
            List<Integer> without = before instanceof House ? ((House) before).seenBy(look) : look.of(made(before));
            BedsThatFit x = made(before);
            Caller.call(x, call, a);
            mustBe(named(call, a) + " changes nothing that " + look + " shows", look.of(x).equals(without));
        }
    }

    static void changesNothingAnywhere(String call, int... a) {
        for (House house : House.values()) {
            changesNothing(house, call, a);
        }
    }

    /**
     * Each number of a call, between ends that are given in pairs: at its ends it is not BAD, just beyond them and
     * far from them it is, and nothing changes then.
     */
    static void numbers(String call, int... ends) {
        for (House house : House.values()) {
            int[] least = new int[ends.length / 2];
            int[] most = new int[ends.length / 2];
            for (int k = 0; k < least.length; k++) {
                least[k] = ends[2 * k];
                most[k] = endIn(house, ends[2 * k + 1]);
            }
            for (int k = 0; k < least.length; k++) {
                if (least[k] <= most[k]) {
                    taken(house, call, with(least, k, most[k]));
                    taken(house, call, with(most, k, least[k]));
                }
                for (int wrong : new int[] {least[k] - 1, most[k] + 1, Integer.MIN_VALUE, Integer.MAX_VALUE}) {
                    refused(house, BAD, call, with(least, k, wrong));
                    due(named(call, with(most, k, wrong)), Caller.call(made(house), call, with(most, k, wrong)), BAD);
                }
            }
        }
    }

    private static int endIn(House house, int end) {
        switch (end) {
            case LAST_BED: return made(house).count(0) - 1;
            case LAST_GUEST: return made(house).count(1) - 1;
            case LAST_LEFT: return made(house).count(5) - 1;
            default: return end;
        }
    }

    private static void taken(House house, String call, int... a) {
        mustBe(named(call, a) + " is not BAD", Caller.call(made(house), call, a) != BAD);
    }

    private static int[] with(int[] numbers, int k, int number) {
        int[] those = numbers.clone();
        those[k] = number;
        return those;
    }
}
