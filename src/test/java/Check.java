import java.io.IOException;
import java.nio.file.Files;
import java.nio.file.Path;
import java.util.Set;
import java.util.TreeSet;

/** What the tests of promises share: answers that are due, told with the words of the document they are due by. */
abstract class Check {
    static final int BAD = -1, NO = -2, FULL = -3, NONE = -4;

    private static final Path DOCUMENT = Path.of("../shared/DOC.md");
    private static final Set<Integer> promises = new TreeSet<>();
    private static String document;
    private static String cause = "";
    private static int checks;
    private static int wrong;

    /** The promise that the next checks are for. */
    static void promise(int number) {
        promises.add(number);
        cause = "promise " + number;
    }

    /** The sentence of the document that the next checks are for; it must stand there to the letter. */
    static void says(int number, String words) {
        promise(number);
        cause += ", \"" + words + "\"";
        checks++;
        if (!document().isEmpty() && !document().contains(words)) {
            tellWrong("the document does not say so");
        }
    }

    static void due(String what, int got, int want) {
        checks++;
        if (got != want) {
            tellWrong(what + " answered " + got + ", due is " + want);
        }
    }

    static void mustBe(String what, boolean so) {
        checks++;
        if (!so) {
            tellWrong("not so: " + what);
        }
    }

    static void end(String name) {
        for (int number = 1; number <= 33; number++) {
            cause = "promise " + number;
            mustBe("it has a test", promises.contains(number));
        }
        System.out.println(name + ": " + checks + " checks, " + wrong + " wrong");
        System.exit(wrong == 0 ? 0 : 1);
    }

    private static void tellWrong(String what) {
        wrong++;
        if (wrong <= 50) {
            System.out.println(cause + ": " + what);
        }
    }

    private static String document() {
        if (document == null) {
            try {
                document = Files.readString(DOCUMENT).replaceAll("\\s+", " ");
            } catch (IOException e) {
                System.out.println("no document to look words up in: " + DOCUMENT);
                document = "";
            }
        }
        return document;
    }

    static void put(BedsThatFit x, String text) {
        for (int k = 0; k < text.length(); k++) {
            x.write(text.charAt(k));
        }
    }

    /** A new object in which the text is laid. */
    static BedsThatFit inn(String text) {
        BedsThatFit x = new BedsThatFit();
        put(x, text);
        mustBe(text + " is laid", x.lay() > 0);
        return x;
    }

    static void dueRow(BedsThatFit x, int... row) {
        for (int p = 0; p < row.length; p++) {
            due("guest(" + row[p] + ", 5)", x.guest(row[p], 5), p);
        }
    }

    static void dueCounts(BedsThatFit x, int... counts) {
        for (int what = 0; what < counts.length; what++) {
            due("count(" + what + ")", x.count(what), counts[what]);
        }
    }

    static void dueLies(BedsThatFit x, int i, int... want) {
        for (int what = 0; what < want.length; what++) {
            due("lies(" + i + ", " + what + ")", x.lies(i, what), want[what]);
        }
    }
}
