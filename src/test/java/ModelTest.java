import java.util.Arrays;
import java.util.Random;

/**
 * Long runs of calls, ordinary ones and wrong ones, against the model.
 * Arguments: how many runs (300), the seed (1).
 */
public final class ModelTest {
    private static final int CALLS = 512;
    private static final String[] NAMES = {
        "bed", "guest", "harm", "lies", "who", "all", "move", "wear", "come", "undo", "cushion", "length",
        "law", "pairs", "later", "rival", "fewest", "turned", "left", "sweep", "slept", "sure", "found",
        "year", "keep", "back", "count", "fault", "lay", "write"};

    private final Random random;
    private final StringBuilder log = new StringBuilder();
    private BedsThatFit real = new BedsThatFit();
    private Model model = new Model();
    private int calls;
    private int wrong;

    private ModelTest(long seed) {
        random = new Random(seed);
    }

    public static void main(String[] args) {
        int runs = args.length > 0 ? Integer.parseInt(args[0]) : 300;
        long seed = args.length > 1 ? Long.parseLong(args[1]) : 1;
        int wrong = 0;
        long calls = 0;
        for (int r = 0; r < runs && wrong < 5; r++) {
            ModelTest test = new ModelTest(seed * 1_000_003 + r);
            test.run();
            wrong += test.wrong;
            calls += test.calls;
        }
        System.out.println("ModelTest: " + calls + " calls, " + wrong + " wrong");
        System.exit(wrong == 0 ? 0 : 1);
    }

    private void run() {
        if (random.nextInt(10) > 0) {
            tell(random.nextInt(4) == 0);
        }
        boolean orderly = random.nextInt(3) == 0;
        while (calls < CALLS && wrong == 0) {
            int dice = random.nextInt(200);
            if (dice == 0) {
                tell(random.nextBoolean());
            } else if (dice < 4 && orderly) {
                checkOrder();
            } else if (dice < 60) {
                change();
            } else {
                any();
            }
        }
    }

    private void tell(boolean broken) {
        String text = InnTexts.draw(random);
        if (broken) {
            text = InnTexts.spoil(random, text);
        }
        check("wipe");
        for (int k = 0; k < text.length() && calls < CALLS; k++) {
            check("write", text.charAt(k));
        }
        check("fault");
        check("lay");
    }

    private void change() {
        int i = random.nextInt(7);
        switch (random.nextInt(5)) {
            case 0: check("move", i, random.nextInt(7)); break;
            case 1: check("wear", i, random.nextInt(21) - 10); break;
            case 2: check("come", i, random.nextInt(11)); break;
            case 3: check("undo"); break;
            default: leave(); break;
        }
    }

    /** Mostly what somebody could have suffered, else there are hardly ever ways. */
    private void leave() {
        int b = random.nextInt(4);
        int n = random.nextInt(12);
        int h = model.answer("harm", random.nextInt(7), b, n);
        check("left", b, n, h >= 0 ? h : random.nextInt(100));
        check("sure", -1);
        check("sure", random.nextInt(6));
    }

    private void checkOrder() {
        check("order", -1);
        for (int p = 0; p < 7 && calls < CALLS; p++) {
            check("order", p);
        }
    }

    private void any() {
        String name = NAMES[random.nextInt(NAMES.length)];
        switch (name) {
            case "undo": case "law": case "rival": case "turned": case "sweep": case "keep": case "back":
            case "fault": case "lay":
                if (random.nextInt(name.equals("sweep") || name.equals("lay") ? 8 : 1) == 0) {
                    check(name);
                }
                break;
            case "harm": case "left": check(name, number(7), number(5), number(31)); break;
            case "year": check(name, random.nextInt(9) == 0 ? number(4) : random.nextInt(10001), number(2)); break;
            case "all": case "cushion": case "pairs": case "fewest": case "slept": case "sure": case "count":
                check(name, number(name.equals("fewest") ? 30 : 9)); break;
            case "write": check(name, random.nextInt(4) == 0 ? number(128) : 32 + random.nextInt(95)); break;
            case "who": case "bed": check(name, number(4), number(random.nextBoolean() ? 30 : 10)); break;
            default: check(name, number(7), number(name.equals("found") ? 11 : 6)); break;
        }
    }

    /** Now and then beyond what is told. */
    private int number(int most) {
        switch (random.nextInt(40)) {
            case 0: return -1;
            case 1: return -2;
            case 2: return most + random.nextInt(4);
            case 3: return random.nextInt();
            case 4: return Integer.MIN_VALUE;
            case 5: return Integer.MAX_VALUE;
            default: return random.nextInt(most);
        }
    }

    private void check(String name, int... a) {
        if (calls >= CALLS || wrong > 0) {
            return;
        }
        calls++;
        log.append(name).append(Arrays.toString(a)).append(' ');
        int want = model.answer(name, a);
        int got = Caller.call(real, name, a);
        if (got != want) {
            wrong++;
            System.out.println(log);
            System.out.println("the last one answered " + got + ", due is " + want);
        }
    }
}
