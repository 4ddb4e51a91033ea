import java.util.Random;

/** ORDER, which is found by a search that skips rows, against the model, which tries them all. */
public final class OrderTest {
    private static int wrong;

    public static void main(String[] args) {
        int inns = args.length > 0 ? Integer.parseInt(args[0]) : 400;
        Random random = new Random(7);
        for (int k = 0; k < inns; k++) {
            compare(InnTexts.draw(random), random);
        }
        System.out.println("OrderTest: " + inns + " inns, " + wrong + " wrong");
        System.exit(wrong == 0 ? 0 : 1);
    }

    private static void compare(String text, Random random) {
        BedsThatFit real = new BedsThatFit();
        Model model = new Model();
        for (int k = 0; k < text.length(); k++) {
            real.write(text.charAt(k));
            model.answer("write", text.charAt(k));
        }
        int guests = real.lay();
        model.answer("lay");
        int i = random.nextInt(guests);
        int c = random.nextInt(19) - 9;
        real.wear(i, c);
        model.answer("wear", i, c);
        int[] best = model.bestRow();
        boolean same = real.order(-1) == best[guests];
        for (int p = 0; p < guests; p++) {
            same &= real.order(p) == best[p];
        }
        if (!same) {
            wrong++;
            System.out.println("another order is due for " + text + " with guest " + i + " wearing " + c);
        }
    }
}
