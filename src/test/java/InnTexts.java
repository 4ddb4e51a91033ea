import java.util.Random;

/** Texts drawn at random. */
final class InnTexts {
    private InnTexts() {
    }

    static String draw(Random random) {
        StringBuilder text = new StringBuilder();
        int beds = 1 + random.nextInt(random.nextInt(3) == 0 ? 1 : 4);
        int guests = 1 + random.nextInt(7);
        int middle = 50 + random.nextInt(40);
        int spread = 1 + random.nextInt(random.nextBoolean() ? 4 : 20);
        for (int k = 0; k < beds; k++) {
            text.append('b').append(inches(random, middle, spread)).append(';');
        }
        for (int k = random.nextInt(5); k > 0; k--) {
            text.append('f').append(random.nextInt(random.nextInt(4) == 0 ? 30 : 6)).append(',').append(random.nextInt(10)).append(';');
        }
        int lastNight = 1 + random.nextInt(10);
        for (int k = 0; k < guests; k++) {
            text.append('g').append(inches(random, middle, spread)).append(',').append(random.nextInt(lastNight))
                .append(',').append(random.nextInt(5)).append(';');
        }
        if (random.nextBoolean()) {
            text.append('k').append(random.nextInt(3)).append(';');
        }
        for (int k = random.nextInt(5); k > 0; k--) {
            text.append('r').append(inches(random, middle, spread)).append(';');
        }
        for (int k = random.nextInt(20); k > 0 && guests > 1 && text.length() < 190; k--) {
            int i = random.nextInt(guests);
            text.append('h').append(i).append(',').append((i + 1 + random.nextInt(guests - 1)) % guests).append(';');
        }
        return text.toString();
    }

    private static int inches(Random random, int middle, int spread) {
        return Math.max(40, Math.min(99, middle + random.nextInt(2 * spread + 1) - spread));
    }

    /** A letter other than it was, one too many, one too few, or one item too many. */
    static String spoil(Random random, String text) {
        String signs = "0123456789,;bfghkr x";
        int at = random.nextInt(text.length());
        char sign = signs.charAt(random.nextInt(signs.length()));
        switch (random.nextInt(4)) {
            case 0: return text.substring(0, at) + sign + text.substring(at + 1);
            case 1: return text.substring(0, at) + sign + text.substring(at);
            case 2: return text.substring(0, at) + text.substring(at + 1);
            default: {
                int from = text.lastIndexOf(';', Math.max(0, at - 1)) + 1;
                int to = text.indexOf(';', from) + 1;
                return text + text.substring(from, Math.max(from, to)) + text.substring(from, Math.max(from, to));
            }
        }
    }
}
