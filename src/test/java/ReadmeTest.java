import java.io.IOException;
import java.lang.reflect.Method;
import java.lang.reflect.Modifier;
import java.nio.file.Files;
import java.nio.file.Path;
import java.util.HashMap;
import java.util.List;
import java.util.Map;
import java.util.Set;
import java.util.TreeSet;
import java.util.regex.Matcher;
import java.util.regex.Pattern;
import java.util.stream.Collectors;
import java.util.stream.Stream;

/** What README.md says that a call answers is what the class answers, and it leaves out no call and no test. */
public final class ReadmeTest {
    private static final Path README = Path.of("README.md");
    private static final Path TESTS = Path.of("src/test/java");
    private static final String MADE = "OrderTests x = new OrderTests();";
    private static final Pattern CALL =
        Pattern.compile("(?:int (\\w+) = )?x\\.(\\w+)\\(([^)]*)\\);\\s*// (-?\\d+|[A-Z]+)(?:: .+)?");
    private static final Pattern LISTED_TEST = Pattern.compile("^- `(\\w+)`:");
    private static final Map<String, Integer> CONSTANTS = Map.of("NONE", OrderTests.NONE,
        "UNKNOWN", OrderTests.UNKNOWN, "OUTSIDE", OrderTests.OUTSIDE, "ROOM", OrderTests.ROOM);

    private static int wrong = 0;
    private static OrderTests x = null;
    private static final Map<String, Integer> numbers = new HashMap<>();
    private static final Set<String> called = new TreeSet<>();
    private static final Set<String> listed = new TreeSet<>();

    private static void fail(int line, String what) {
        wrong++;
        System.out.println("README.md" + (line > 0 ? ", line " + line : "") + ": " + what);
    }

    public static void main(String[] args) throws Exception {
        List<String> lines = Files.readAllLines(README);
        boolean inExample = false;
        for (int i = 0; i < lines.size(); i++) {
            String line = lines.get(i).strip();
            if (line.startsWith("```")) {
                inExample = line.equals("```java");
                x = null;
                numbers.clear();
            } else if (inExample && !line.isEmpty()) {
                example(i + 1, line);
            } else {
                readListed(line);
            }
        }
        sameNames("calls", called, publicMethods());
        sameNames("tests", listed, testsOfTheProject());
        System.out.println(wrong == 0 ? "all answers are as due" : wrong + " things are not as due");
        if (wrong != 0) {
            System.exit(1);
        }
    }

    private static void readListed(String line) {
        Matcher test = LISTED_TEST.matcher(line);
        if (test.find()) {
            listed.add(test.group(1));
        }
    }

    private static void example(int number, String line) throws Exception {
        if (line.equals(MADE)) {
            x = new OrderTests();
            return;
        }
        Matcher call = CALL.matcher(line);
        if (!call.matches() || x == null) {
            fail(number, "no call with its answer: " + line);
            return;
        }
        Integer want = numberOf(call.group(4), CONSTANTS);
        int got = answer(call.group(2), call.group(3));
        if (want == null || got != want) {
            fail(number, line + " -- answered " + got);
        }
        if (call.group(1) != null) {
            numbers.put(call.group(1), got);
        }
        called.add(call.group(2));
    }

    private static int answer(String name, String written) throws Exception {
        String[] parts = written.split(", ");
        Class<?>[] types = new Class<?>[parts.length];
        Object[] values = new Object[parts.length];
        for (int i = 0; i < parts.length; i++) {
            types[i] = int.class;
            values[i] = numberOf(parts[i], numbers);
        }
        return (Integer) OrderTests.class.getMethod(name, types).invoke(x, values);
    }

    private static Integer numberOf(String written, Map<String, Integer> names) {
        return written.matches("-?\\d+") ? Integer.valueOf(written) : names.get(written);
    }

    private static Set<String> publicMethods() {
        Set<String> names = new TreeSet<>();
        for (Method m : OrderTests.class.getDeclaredMethods()) {
            if (Modifier.isPublic(m.getModifiers())) {
                names.add(m.getName());
            }
        }
        return names;
    }

    private static Set<String> testsOfTheProject() throws IOException {
        try (Stream<Path> files = Files.list(TESTS)) {
            return files.map(f -> f.getFileName().toString()).filter(f -> f.endsWith(".java"))
                .map(f -> f.substring(0, f.length() - ".java".length())).collect(Collectors.toCollection(TreeSet::new));
        }
    }

    private static void sameNames(String what, Set<String> told, Set<String> due) {
        if (!told.equals(due)) {
            fail(0, "its " + what + " are " + told + ", due are " + due);
        }
    }
}
