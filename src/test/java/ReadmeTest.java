import java.io.IOException;
import java.lang.reflect.Method;
import java.lang.reflect.Modifier;
import java.nio.file.Files;
import java.nio.file.Path;
import java.util.Set;
import java.util.TreeSet;
import java.util.regex.Matcher;
import java.util.regex.Pattern;

/** The run of calls in README.md answers what stands there, and has every call of the face. */
public final class ReadmeTest {
    private static final Pattern BLOCK = Pattern.compile("```java\n(.*?)```", Pattern.DOTALL);
    private static final Pattern TEXT = Pattern.compile("String text = \"([^\"]*)\";");
    private static final Pattern LETTERS = Pattern.compile("\\s*x\\.write\\(letter\\);.*");
    private static final Pattern CALL = Pattern.compile("x\\.(\\w+)\\(([-0-9, ]*)\\);\\s*// (-?\\d+|BAD|NO|FULL|NONE)\\b.*");

    private final BedsThatFit x = new BedsThatFit();
    private final Set<String> called = new TreeSet<>();
    private String text = "";
    private int wrong;

    public static void main(String[] args) throws IOException {
        Matcher block = BLOCK.matcher(Files.readString(Path.of("README.md")));
        ReadmeTest test = new ReadmeTest();
        if (block.find()) {
            for (String line : block.group(1).split("\n")) {
                test.follow(line);
            }
        }
        test.everyCall();
        System.out.println("ReadmeTest: " + test.called.size() + " names called, " + test.wrong + " wrong");
        System.exit(test.wrong == 0 ? 0 : 1);
    }

    private void follow(String line) {
        Matcher told = TEXT.matcher(line);
        Matcher call = CALL.matcher(line);
        if (told.matches()) {
            text = told.group(1);
        } else if (LETTERS.matcher(line).matches()) {
            called.add("write");
            Check.put(x, text);
        } else if (call.matches()) {
            called.add(call.group(1));
            compare(line, Caller.call(x, call.group(1), numbers(call.group(2))), answer(call.group(3)));
        } else if (line.startsWith("x.")) {
            tellWrong(line + " has no answer to compare");
        }
    }

    private static int[] numbers(String between) {
        String[] parts = between.isBlank() ? new String[0] : between.split(", ");
        int[] numbers = new int[parts.length];
        for (int k = 0; k < parts.length; k++) {
            numbers[k] = Integer.parseInt(parts[k]);
        }
        return numbers;
    }

    private static int answer(String word) {
        switch (word) {
            case "BAD": return BedsThatFit.BAD;
            case "NO": return BedsThatFit.NO;
            case "FULL": return BedsThatFit.FULL;
            case "NONE": return BedsThatFit.NONE;
            default: return Integer.parseInt(word);
        }
    }

    private void compare(String line, int got, int told) {
        if (got != told) {
            tellWrong(line + " answered " + got);
        }
    }

    private void everyCall() {
        for (Method m : BedsThatFit.class.getDeclaredMethods()) {
            if (Modifier.isPublic(m.getModifiers()) && !called.contains(m.getName())) {
                tellWrong(m.getName() + " is not in README.md");
            }
        }
    }

    private void tellWrong(String what) {
        wrong++;
        System.out.println(what);
    }
}
