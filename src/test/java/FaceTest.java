import java.io.IOException;
import java.lang.reflect.Constructor;
import java.lang.reflect.Field;
import java.lang.reflect.Method;
import java.lang.reflect.Modifier;
import java.nio.file.Files;
import java.nio.file.Path;
import java.util.Arrays;
import java.util.Set;
import java.util.TreeSet;
import java.util.regex.Matcher;
import java.util.regex.Pattern;

/** The face of the document, and those rules of LANGUAGE.md that can be seen without running. */
public final class FaceTest {
    private static final String[] FACE = {
        "write(int)", "wipe()", "fault()", "lay()", "bed(int,int)", "guest(int,int)", "harm(int,int,int)",
        "lies(int,int)", "who(int,int)", "all(int)", "move(int,int)", "wear(int,int)", "come(int,int)", "undo()",
        "order(int)", "cushion(int)", "length(int,int)", "law()", "pairs(int)", "later(int,int)", "rival()",
        "fewest(int)", "turned()", "left(int,int,int)", "sweep()", "slept(int)", "sure(int)", "found(int,int)",
        "year(int,int)", "keep()", "back()", "count(int)"};
    private static final String[] NOT_ALLOWED = {
        "\\bpackage\\b", "\\bimport (?!java\\.util\\.(Array)?List;|java\\.util\\.(Arrays|Iterator|NoSuchElementException);)",
        "\\bfinally\\b", "\\btry\\s*\\(", "\\bassert\\b", "\\bsynchronized\\b", "^(?!\\s*(case|default)\\b).*->", "::", "Exact\\b",
        "\\bprotected\\b", "\\bSystem\\.(?!arraycopy\\b)", "\\b(Thread|Random|Object|HashMap|Map|Set)\\b", "\\bstatic\\s*\\{",
        "\\bnew \\w*(Exception|Error)\\((?!\"\"\\)|\\))",
        "\\bcatch\\s*\\(\\s*(final )?(Exception|Throwable|NullPointerException|ClassCastException|ArrayIndexOutOfBoundsException"
            + "|NegativeArraySizeException|ArrayStoreException)\\b"};

    private static int wrong;

    public static void main(String[] args) throws IOException {
        face();
        classesInside();
        source(Files.readString(Path.of("src/main/java/BedsThatFit.java")));
        System.out.println("FaceTest: " + wrong + " wrong");
        System.exit(wrong == 0 ? 0 : 1);
    }

    private static void mustBe(boolean so, String what) {
        if (!so) {
            wrong++;
            System.out.println("not so: " + what);
        }
    }

    private static void face() {
        Class<?> c = BedsThatFit.class;
        mustBe(Modifier.isPublic(c.getModifiers()) && Modifier.isFinal(c.getModifiers()), "the class is public and final");
        Set<String> methods = new TreeSet<>();
        Set<String> names = new TreeSet<>();
        for (Method m : c.getDeclaredMethods()) {
            if (!Modifier.isPrivate(m.getModifiers())) {
                mustBe(Modifier.isPublic(m.getModifiers()) && m.getReturnType() == int.class, m + " is of the face");
                names.add(m.getName());
                methods.add(m.getName() + Arrays.toString(m.getParameterTypes()).replace("[", "(").replace("]", ")").replace(" ", ""));
            }
        }
        mustBe(methods.equals(new TreeSet<>(Arrays.asList(FACE))), "the methods are the document's: " + methods);
        for (Class<?> any : everyClass()) {
            for (Method m : any.getDeclaredMethods()) {
                mustBe(!Modifier.isPrivate(m.getModifiers()) || !names.contains(m.getName()), m + " has a name of its own");
            }
        }
        Set<String> constants = new TreeSet<>();
        for (Field f : c.getDeclaredFields()) {
            if (!Modifier.isPrivate(f.getModifiers())) {
                mustBe(Modifier.isPublic(f.getModifiers()) && Modifier.isStatic(f.getModifiers()) && f.getType() == int.class, f + " is a constant");
                constants.add(f.getName());
            }
        }
        mustBe(constants.equals(Set.of("BAD", "NO", "FULL", "NONE")), "the constants are the document's: " + constants);
        Constructor<?>[] made = c.getDeclaredConstructors();
        mustBe(made.length == 1 && Modifier.isPublic(made[0].getModifiers()) && made[0].getParameterCount() == 0, "one constructor");
    }

    private static Class<?>[] everyClass() {
        Class<?>[] inside = BedsThatFit.class.getDeclaredClasses();
        Class<?>[] every = Arrays.copyOf(inside, inside.length + 1);
        every[inside.length] = BedsThatFit.class;
        return every;
    }

    private static void classesInside() {
        mustBe(everyClass().length <= 12, "at most twelve classes");
        for (Class<?> c : everyClass()) {
            int fields = 0;
            for (Field f : c.getDeclaredFields()) {
                boolean constant = Modifier.isStatic(f.getModifiers());
                mustBe(!constant || Modifier.isFinal(f.getModifiers()), f + " is final");
                fields += constant ? 0 : 1;
            }
            mustBe(fields <= 20, c + " has at most twenty fields");
            for (Method m : c.getDeclaredMethods()) {
                mustBe(m.getParameterCount() <= 7, m + " takes at most seven");
            }
            if (c != BedsThatFit.class) {
                mustBe(Modifier.isStatic(c.getModifiers()) && !Modifier.isPublic(c.getModifiers())
                    && !Modifier.isProtected(c.getModifiers()), c + " is static and not seen from outside");
            }
        }
    }

    private static void source(String whole) {
        String code = whole.replaceAll("(?s)/\\*.*?\\*/", "").replaceAll("//[^\n]*", "").replaceAll("\"[^\"\n]*\"", "\"\"");
        for (String no : NOT_ALLOWED) {
            Matcher m = Pattern.compile(no, Pattern.MULTILINE).matcher(code);
            mustBe(!m.find(), "the source is without " + no);
        }
        mustBe(whole.chars().allMatch(ch -> ch == '\n' || ch >= 32 && ch < 127), "the source is ASCII");
        int lines = 0;
        for (String line : code.split("\n")) {
            lines = line.matches(" {4}( {4})?\\}") ? 0 : lines + 1;
            mustBe(lines <= 62, "methods stay short, near: " + line);
        }
    }
}
