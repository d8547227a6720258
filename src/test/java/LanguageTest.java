import java.lang.management.ManagementFactory;
import java.lang.reflect.Constructor;
import java.lang.reflect.Field;
import java.lang.reflect.Method;
import java.lang.reflect.Modifier;
import java.nio.file.Files;
import java.nio.file.Path;
import java.util.ArrayList;
import java.util.Arrays;
import java.util.List;
import java.util.Map;
import java.util.TreeMap;
import java.util.TreeSet;
import java.util.regex.Matcher;
import java.util.regex.Pattern;

/** The face of the class, the rules of LANGUAGE.md that can be looked up, and that no call makes objects. */
public final class LanguageTest {
    private static final String[] FACE = {
        "adds(int)", "back(int)", "bend(int,int,int,int)", "box(int,int)", "boxes(int,int,int)",
        "clear()", "count(int)", "counts(int,int,int,int)", "heard()", "held(int,int)", "keep(int)",
        "left(int)", "listen()", "narrowed(int)", "number(int,int)", "odds(int,int)", "strikes(int)",
        "time(int)", "type(int)", "undo()"};
    private static final String[] BANNED = {
        "throw", "throws", "try", "catch", "finally", "synchronized", "assert", "import", "package",
        "native", "volatile", "transient", "double", "float", "Object", "System", "Thread", "Random",
        "hashCode", "toString", "protected"};
    private static int wrong = 0;

    private static void due(String what, Object got, Object want) {
        if (!got.equals(want)) {
            wrong++;
            System.out.println(what + ": " + got + ", due is " + want);
        }
    }

    private static String signature(Method m) {
        List<String> types = new ArrayList<>();
        for (Class<?> type : m.getParameterTypes()) {
            types.add(type.getName());
        }
        return m.getName() + "(" + String.join(",", types) + ")";
    }

    private static void face() {
        due("modifiers", Modifier.toString(PulseTurns.class.getModifiers()), "public final");
        TreeSet<String> open = new TreeSet<>();
        TreeSet<String> names = new TreeSet<>();
        for (Method m : PulseTurns.class.getDeclaredMethods()) {
            if (!Modifier.isPrivate(m.getModifiers())) {
                open.add(signature(m));
                names.add(m.getName());
                due(m + " modifiers", Modifier.toString(m.getModifiers()), "public");
                due(m + " returns", m.getReturnType(), int.class);
            }
        }
        due("methods", open, new TreeSet<>(List.of(FACE)));
        Constructor<?>[] made = PulseTurns.class.getDeclaredConstructors();
        due("constructors", made.length, 1);
        due("constructor", Modifier.toString(made[0].getModifiers()), "public");
        TreeSet<String> constants = new TreeSet<>();
        for (Field f : PulseTurns.class.getDeclaredFields()) {
            if (!Modifier.isPrivate(f.getModifiers())) {
                constants.add(Modifier.toString(f.getModifiers()) + " " + f.getName());
            }
        }
        String kind = "public static final ";
        due("constants", constants, new TreeSet<>(List.of(
            kind + "BAD", kind + "STATE", kind + "FULL", kind + "NONE", kind + "NO")));
        inside(names);
    }

    private static void inside(TreeSet<String> names) {
        for (Class<?> c : PulseTurns.class.getDeclaredClasses()) {
            due(c + " is static", Modifier.isStatic(c.getModifiers()), true);
            due(c + " is not public", Modifier.isPublic(c.getModifiers()), false);
            for (Field f : c.getDeclaredFields()) {
                if (Modifier.isStatic(f.getModifiers())) {
                    due(f + " is final", Modifier.isFinal(f.getModifiers()), true);
                }
            }
            for (Method m : c.getDeclaredMethods()) {
                due(m + " bears a name of the face", names.contains(m.getName()), false);
                due(m + " has at most seven parameters", m.getParameterCount() <= 7, true);
            }
        }
        for (Method m : PulseTurns.class.getDeclaredMethods()) {
            if (Modifier.isPrivate(m.getModifiers())) {
                due(m + " bears a name of the face", names.contains(m.getName()), false);
            }
        }
    }

    private static void source(String path) throws Exception {
        String all = Files.readString(Path.of(path));
        String code = all.replaceAll("(?s)/\\*.*?\\*/", " ").replaceAll("//[^\n]*", " ");
        loops(code);
        new CallTree(all.split("\n")).check();
        for (String word : BANNED) {
            due("the word " + word, Pattern.compile("\\b" + word + "\\b").matcher(code).find(), false);
        }
        due("a lambda", code.contains("->"), false);
        due("a method reference", code.contains("::"), false);
        due("signs beyond 127", all.chars().anyMatch(c -> c > 127), false);
        due("a text's constant", code.contains("\""), false);
        // Objects are made in constructors and initialisers alone: each new stands behind a field.
        Matcher made = Pattern.compile("([^\n]*)\\bnew\\b").matcher(code);
        while (made.find()) {
            String ahead = made.group(1);
            boolean field = ahead.contains("final") && ahead.contains("=");
            boolean row = ahead.trim().matches("(images\\[i\\]|ring\\[i\\]|leaves\\[a\\]) =");
            due("new behind: " + ahead.trim(), field || row, true);
        }
    }

    /** Rule 9: each loop counts against a bound that stands in its own lines. */
    private static void loops(String code) {
        Matcher loop = Pattern.compile("\\b(for|while|do)\\b([^\n]*)").matcher(code);
        String counted = " \\(int (\\w+) = [^;]*; [^;]*\\b\\1 (<|<=|>|>=) [^;]*; \\1(\\+\\+|--)\\) \\{";
        while (loop.find()) {
            String head = loop.group(2);
            boolean bound = loop.group(1).equals("for") ? head.matches(counted)
                : head.equals(" (many < limit && next()) {");
            due("a bound of the loop" + head, bound, true);
        }
    }

    /** Calls of all kinds, among them the dearest ones. */
    private static int calls(PulseTurns x, char[] letters) {
        int sum = 0;
        for (char c : letters) {
            sum += x.type(c);
        }
        sum += x.heard() + x.listen() + x.odds(5, 0) + x.adds(2600) + x.odds(3, 1) + x.strikes(2);
        sum += x.boxes(20, 60, 3) + x.undo() + x.left(700) + x.keep(0) + x.back(0) + x.narrowed(0);
        sum += x.counts(0, 1, 1, 0) + x.bend(0, 1, 2, 0) + x.number(0, 1) + x.box(0, 0) + x.held(0, 0);
        for (int what = 0; what < 8; what++) {
            sum += x.count(what);
        }
        return sum + x.time(0) + x.clear() + x.heard();
    }

    private static void noObjects() {
        com.sun.management.ThreadMXBean bean =
            (com.sun.management.ThreadMXBean) ManagementFactory.getThreadMXBean();
        PulseTurns x = new PulseTurns();
        char[] letters = "b10 999 2;t0;t30;t61;t1092;t2005;t2500;".toCharArray();
        long id = Thread.currentThread().getId();
        int sum = calls(x, letters);
        long bytes = Long.MAX_VALUE;
        for (int round = 0; round < 5; round++) {
            long start = bean.getThreadAllocatedBytes(id);
            int again = calls(x, letters);
            bytes = Math.min(bytes, bean.getThreadAllocatedBytes(id) - start);
            due("the same calls answer the same", again, sum);
        }
        due("calls make few bytes of objects (" + bytes + ")", bytes < 100, true);
    }

    /** Rules 8 and 11: how long methods are, how many classes and fields there are, how deep calls go. */
    private static final class CallTree {
        private static final int MOST_LINES = 60, MOST_CLASSES = 12, MOST_FIELDS = 20, MOST_DEEP = 8;
        private static final Pattern CLASS = Pattern.compile("\\bclass (\\w+) \\{");
        private static final Pattern METHOD =
            Pattern.compile("(?:(?:public|private|static|int|boolean|void) )*(\\w+)\\([^()]*\\) \\{");
        private static final Pattern CALL = Pattern.compile("(\\bnew )?(?:(\\w+|\\])\\.)?\\b(\\w+)\\(");

        private final Map<String, List<String>> bodies = new TreeMap<>();
        private final TreeSet<String> classes = new TreeSet<>();

        CallTree(String[] lines) {
            String owner = "";
            List<String> body = null;
            String closes = "";
            for (String line : lines) {
                String words = line.strip();
                Matcher head = METHOD.matcher(words);
                Matcher begun = CLASS.matcher(words);
                if (body != null) {
                    body.add(words);
                    body = line.equals(closes) ? null : body;
                } else if (begun.find()) {
                    owner = begun.group(1);
                    classes.add(owner);
                } else if (head.matches()) {
                    body = new ArrayList<>(List.of(words));
                    bodies.put(owner + "." + head.group(1), body);
                    closes = line.substring(0, line.indexOf(words)) + "}";
                }
            }
        }

        void check() {
            due("methods found, at least the face", bodies.size() > FACE.length, true);
            due("at most so many classes", classes.size() <= MOST_CLASSES, true);
            int deepest = 0;
            for (Map.Entry<String, List<String>> method : bodies.entrySet()) {
                due(method.getKey() + " is short", method.getValue().size() <= MOST_LINES, true);
                deepest = Math.max(deepest, depth(method.getKey(), 1));
            }
            due("calls go too deep: " + deepest, deepest > MOST_DEEP, false);
            due("calls were followed", deepest > 2, true);
            fields(PulseTurns.class);
            for (Class<?> c : PulseTurns.class.getDeclaredClasses()) {
                fields(c);
            }
        }

        private static void fields(Class<?> c) {
            long many = Arrays.stream(c.getDeclaredFields())
                .filter(f -> !Modifier.isStatic(f.getModifiers())).count();
            due(c + " has at most so many fields", many <= MOST_FIELDS, true);
        }

        /** Recursion would go on, so it is let go only a little beyond what is allowed. */
        private int depth(String method, int level) {
            int deepest = level;
            List<String> body = bodies.get(method);
            for (String line : body.subList(1, body.size())) {
                Matcher call = CALL.matcher(line);
                while (level <= MOST_DEEP && call.find()) {
                    for (String callee : callees(method, call)) {
                        deepest = Math.max(deepest, depth(callee, level + 1));
                    }
                }
            }
            return deepest;
        }

        /** All methods that a call could mean: where the source alone doesn't tell, of any class. */
        private List<String> callees(String caller, Matcher call) {
            String name = call.group(3);
            List<String> owners = new ArrayList<>(classes);
            if (call.group(1) != null) {
                owners = List.of(name);
            } else if (call.group(2) == null) {
                owners = List.of(caller.substring(0, caller.indexOf('.')), "PulseTurns");
            } else if (classes.contains(call.group(2))) {
                owners = List.of(call.group(2));
            }
            List<String> found = new ArrayList<>();
            for (String owner : owners) {
                if (bodies.containsKey(owner + "." + name)) {
                    found.add(owner + "." + name);
                }
            }
            return found;
        }
    }

    public static void main(String[] args) throws Exception {
        face();
        source(args.length > 0 ? args[0] : "src/main/java/PulseTurns.java");
        noObjects();
        System.out.println("LanguageTest: " + wrong + " faults");
        if (wrong != 0) {
            System.exit(1);
        }
    }
}
