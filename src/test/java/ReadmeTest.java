import java.io.IOException;
import java.lang.reflect.Method;
import java.nio.file.Files;
import java.nio.file.Path;
import java.util.ArrayList;
import java.util.List;
import java.util.Set;
import java.util.TreeSet;
import java.util.regex.Matcher;
import java.util.regex.Pattern;

/** The calls that README.md shows answer as README.md says, and it shows every call of the face. */
public final class ReadmeTest {
    private static final String MADE = "PulseTurns x = new PulseTurns();";
    private static final Pattern TYPED =
        Pattern.compile("for \\(char letter : \"([^\"]*)\"\\.toCharArray\\(\\)\\) x\\.type\\(letter\\);");
    private static final Pattern CALLED =
        Pattern.compile("x\\.(\\w+)\\(([^)]*)\\); +// (-?\\d+|[A-Z]+)(: .*)?");
    private static final Pattern CONSTANT = Pattern.compile("`([A-Z]+)` \\((-\\d+)[,:)]");
    // The document promises nothing about an object behind so many calls.
    private static final int MOST_CALLS = 512;

    private static final Set<String> shown = new TreeSet<>();
    private static PulseTurns x;
    private static int calls;

    public static void main(String[] args) throws ReflectiveOperationException, IOException {
        String page = Files.readString(Path.of("README.md"));
        for (String line : codeOf(page)) {
            follow(line);
        }
        Due.is("calls of README.md beyond what an object serves for", Math.max(0, calls - MOST_CALLS), 0);
        showsEveryCall();
        tellsConstants(page);
        namesEveryTest(page);
        Due.end("ReadmeTest");
    }

    private static List<String> codeOf(String page) {
        List<String> code = new ArrayList<>();
        boolean inside = false;
        for (String line : page.split("\n")) {
            if (line.startsWith("```")) {
                inside = line.equals("```java");
            } else if (inside && !line.isBlank()) {
                code.add(line.strip());
            }
        }
        return code;
    }

    private static void follow(String line) throws ReflectiveOperationException {
        Matcher typed = TYPED.matcher(line);
        Matcher called = CALLED.matcher(line);
        if (line.equals(MADE)) {
            x = new PulseTurns();
        } else if (x != null && typed.matches()) {
            Due.types(x, typed.group(1));
            calls += typed.group(1).length();
        } else if (x != null && called.matches()) {
            Due.is("README.md: " + line, answer(called.group(1), called.group(2)), value(called.group(3)));
            shown.add(called.group(1));
            calls++;
        } else {
            Due.is("README.md: a line that can't be followed, " + line, 1, 0);
        }
    }

    private static int answer(String name, String words) throws ReflectiveOperationException {
        String[] given = words.isBlank() ? new String[0] : words.split(",");
        Object[] numbers = new Object[given.length];
        Class<?>[] types = new Class<?>[given.length];
        for (int i = 0; i < given.length; i++) {
            String word = given[i].strip();
            numbers[i] = word.startsWith("'") ? (int) word.charAt(1) : Integer.parseInt(word);
            types[i] = int.class;
        }
        return (Integer) PulseTurns.class.getMethod(name, types).invoke(x, numbers);
    }

    private static int value(String word) throws ReflectiveOperationException {
        boolean isName = Character.isLetter(word.charAt(0));
        return isName ? PulseTurns.class.getField(word).getInt(null) : Integer.parseInt(word);
    }

    private static void showsEveryCall() {
        for (Method method : PulseTurns.class.getDeclaredMethods()) {
            if (java.lang.reflect.Modifier.isPublic(method.getModifiers())) {
                String name = method.getName();
                Due.is("README.md shows " + name, shown.contains(name) ? 1 : 0, 1);
            }
        }
    }

    private static void tellsConstants(String page) throws ReflectiveOperationException {
        Matcher told = CONSTANT.matcher(page);
        Set<String> names = new TreeSet<>();
        while (told.find()) {
            Due.is("README.md: " + told.group(1), value(told.group(2)), value(told.group(1)));
            names.add(told.group(1));
        }
        Due.is("constants that README.md tells", names.size(), 5);
    }

    private static void namesEveryTest(String page) throws IOException {
        try (var files = Files.list(Path.of("src/test/java"))) {
            for (Path file : files.sorted().toList()) {
                Due.is("README.md names " + file, page.contains("`" + file + "`") ? 1 : 0, 1);
            }
        }
    }
}
