import java.lang.management.ManagementFactory;
import java.lang.reflect.Constructor;
import java.lang.reflect.Field;
import java.lang.reflect.Method;
import java.lang.reflect.Modifier;
import java.nio.file.Files;
import java.nio.file.Path;
import java.util.ArrayList;
import java.util.List;
import java.util.TreeSet;
import java.util.regex.Matcher;
import java.util.regex.Pattern;

/** The face of the class, the rules of LANGUAGE.md that can be looked up, and that no call makes objects. */
public final class LanguageTest {
    private static final String[] FACE = {
        "adds(int)", "back(int)", "bend(int,int,int,int)", "box(int,int)", "boxes(int,int,int)",
        "clear()", "count(int)", "counts(int,int,int,int)", "heard()", "held(int,int)", "keep(int)",
        "left(int)", "listen()", "narrowed(int)", "number(int,int)", "odds(int,int)", "strikes(int)",
        "time(int)", "type(int)", "undo()"};
    private static final String[] BANNED = {
        "throw", "throws", "try", "catch", "finally", "synchronized", "assert", "import", "package",
        "native", "volatile", "transient", "double", "float", "Object", "System", "Thread", "Random",
        "hashCode", "toString", "protected"};
    private static int wrong = 0;

    private static void due(String what, Object got, Object want) {
        if (!got.equals(want)) {
            wrong++;
            System.out.println(what + ": " + got + ", due is " + want);
        }
    }

    private static String signature(Method m) {
        List<String> types = new ArrayList<>();
        for (Class<?> type : m.getParameterTypes()) {
            types.add(type.getName());
        }
        return m.getName() + "(" + String.join(",", types) + ")";
    }

    private static void face() {
        due("modifiers", Modifier.toString(PulseTurns.class.getModifiers()), "public final");
        TreeSet<String> open = new TreeSet<>();
        TreeSet<String> names = new TreeSet<>();
        for (Method m : PulseTurns.class.getDeclaredMethods()) {
            if (!Modifier.isPrivate(m.getModifiers())) {
                open.add(signature(m));
                names.add(m.getName());
                due(m + " modifiers", Modifier.toString(m.getModifiers()), "public");
                due(m + " returns", m.getReturnType(), int.class);
            }
        }
        due("methods", open, new TreeSet<>(List.of(FACE)));
        Constructor<?>[] made = PulseTurns.class.getDeclaredConstructors();
        due("constructors", made.length, 1);
        due("constructor", Modifier.toString(made[0].getModifiers()), "public");
        TreeSet<String> constants = new TreeSet<>();
        for (Field f : PulseTurns.class.getDeclaredFields()) {
            if (!Modifier.isPrivate(f.getModifiers())) {
                constants.add(Modifier.toString(f.getModifiers()) + " " + f.getName());
            }
        }
        String kind = "public static final ";
        due("constants", constants, new TreeSet<>(List.of(
            kind + "BAD", kind + "STATE", kind + "FULL", kind + "NONE", kind + "NO")));
        inside(names);
    }

    private static void inside(TreeSet<String> names) {
        for (Class<?> c : PulseTurns.class.getDeclaredClasses()) {
            due(c + " is static", Modifier.isStatic(c.getModifiers()), true);
            due(c + " is not public", Modifier.isPublic(c.getModifiers()), false);
            for (Field f : c.getDeclaredFields()) {
                if (Modifier.isStatic(f.getModifiers())) {
                    due(f + " is final", Modifier.isFinal(f.getModifiers()), true);
                }
            }
            for (Method m : c.getDeclaredMethods()) {
                due(m + " bears a name of the face", names.contains(m.getName()), false);
                due(m + " has at most seven parameters", m.getParameterCount() <= 7, true);
            }
        }
        for (Method m : PulseTurns.class.getDeclaredMethods()) {
            if (Modifier.isPrivate(m.getModifiers())) {
                due(m + " bears a name of the face", names.contains(m.getName()), false);
            }
        }
    }

    private static void source(String path) throws Exception {
        String all = Files.readString(Path.of(path));
        String code = all.replaceAll("(?s)/\\*.*?\\*/", " ").replaceAll("//[^\n]*", " ");
        for (String word : BANNED) {
            due("the word " + word, Pattern.compile("\\b" + word + "\\b").matcher(code).find(), false);
        }
        due("a lambda", code.contains("->"), false);
        due("a method reference", code.contains("::"), false);
        due("signs beyond 127", all.chars().anyMatch(c -> c > 127), false);
        due("a text's constant", code.contains("\""), false);
        // Objects are made in constructors and initialisers alone: each new stands behind a field.
        Matcher made = Pattern.compile("([^\n]*)\\bnew\\b").matcher(code);
        while (made.find()) {
            String ahead = made.group(1);
            boolean field = ahead.contains("final") && ahead.contains("=");
            boolean row = ahead.trim().matches("(images\\[i\\]|ring\\[i\\]|leaves\\[a\\]) =");
            due("new behind: " + ahead.trim(), field || row, true);
        }
    }

    /** Calls of all kinds, among them the dearest ones. */
    private static int calls(PulseTurns x, char[] letters) {
        int sum = 0;
        for (char c : letters) {
            sum += x.type(c);
        }
        sum += x.heard() + x.listen() + x.odds(5, 0) + x.adds(2600) + x.odds(3, 1) + x.strikes(2);
        sum += x.boxes(20, 60, 3) + x.undo() + x.left(700) + x.keep(0) + x.back(0) + x.narrowed(0);
        sum += x.counts(0, 1, 1, 0) + x.bend(0, 1, 2, 0) + x.number(0, 1) + x.box(0, 0) + x.held(0, 0);
        for (int what = 0; what < 8; what++) {
            sum += x.count(what);
        }
        return sum + x.time(0) + x.clear() + x.heard();
    }

    private static void noObjects() {
        com.sun.management.ThreadMXBean bean =
            (com.sun.management.ThreadMXBean) ManagementFactory.getThreadMXBean();
        PulseTurns x = new PulseTurns();
        char[] letters = "b10 999 2;t0;t30;t61;t1092;t2005;t2500;".toCharArray();
        long id = Thread.currentThread().getId();
        int sum = calls(x, letters);
        long bytes = Long.MAX_VALUE;
        for (int round = 0; round < 5; round++) {
            long start = bean.getThreadAllocatedBytes(id);
            int again = calls(x, letters);
            bytes = Math.min(bytes, bean.getThreadAllocatedBytes(id) - start);
            due("the same calls answer the same", again, sum);
        }
        due("calls make few bytes of objects (" + bytes + ")", bytes < 100, true);
    }

    public static void main(String[] args) throws Exception {
        face();
        source(args.length > 0 ? args[0] : "src/main/java/PulseTurns.java");
        noObjects();
        System.out.println("LanguageTest: " + wrong + " faults");
        if (wrong != 0) {
            System.exit(1);
        }
    }
}
