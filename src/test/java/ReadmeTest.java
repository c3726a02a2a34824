import java.io.IOException;
import java.lang.reflect.InvocationTargetException;
import java.lang.reflect.Method;
import java.nio.file.Files;
import java.nio.file.Path;
import java.util.HashMap;
import java.util.Map;
import java.util.regex.Matcher;
import java.util.regex.Pattern;

/** The calls in README.md answer as their comments say. */
public final class ReadmeTest {
    private static final Path README = Path.of("README.md");
    private static final String MAKING = "DeductionDesk desk = new DeductionDesk();";
    private static final Pattern CALL = Pattern.compile("(?:int (\\w+) = )?desk\\.(\\w+)\\(([^)]*)\\); +// (.+)");
    private static final Check CHECK = new Check("ReadmeTest");

    private final DeductionDesk desk = new DeductionDesk();
    private final Map<String, Object> numbers = new HashMap<>();
    private final Map<String, Method> methods = new HashMap<>();

    private ReadmeTest() {
        for (Method each : DeductionDesk.class.getMethods()) {
            methods.put(each.getName(), each);
        }
    }

    public static void main(String[] args) throws IOException {
        new ReadmeTest().testExample();
        testNames();
        CHECK.end();
    }

    private void testExample() throws IOException {
        int calls = 0;
        boolean isExample = false;
        for (String line : Files.readAllLines(README)) {
            isExample = line.startsWith("```") ? line.equals("```java") : isExample;
            Matcher call = CALL.matcher(line);
            if (isExample && call.matches()) {
                calls++;
                testCall(line, call);
            } else if (isExample && !line.isEmpty() && !line.startsWith("//") && !line.startsWith("```")) {
                CHECK.same("what is no call", line, MAKING);
            }
        }
        CHECK.same("there are calls", calls > 0, true);
    }

    private void testCall(String line, Matcher call) {
        Object got = answer(call.group(2), call.group(3));
        CHECK.same(line, String.valueOf(got), call.group(4));
        if (call.group(1) != null) {
            numbers.put(call.group(1), got);
        }
    }

    private Object answer(String name, String arguments) {
        String[] words = arguments.isEmpty() ? new String[0] : arguments.split(", ");
        Object[] values = new Object[words.length];
        for (int i = 0; i < words.length; i++) {
            values[i] = value(words[i]);
        }
        try {
            return methods.get(name).invoke(desk, values);
        } catch (InvocationTargetException e) {
            return "throws " + e.getCause().getClass().getSimpleName();
        } catch (IllegalAccessException e) {
            throw new IllegalStateException(e);
        }
    }

    private Object value(String word) {
        if (word.equals("true") || word.equals("false")) {
            return Boolean.valueOf(word);
        }
        return numbers.containsKey(word) ? numbers.get(word) : Integer.valueOf(word);
    }

    /** README.md names each test, and no test that is not there. */
    private static void testNames() throws IOException {
        String text = Files.readString(README);
        Matcher named = Pattern.compile("\\| `(\\w+Test)` \\|").matcher(text);
        while (named.find()) {
            CHECK.same(named.group(1) + " is there",
                    Files.exists(Path.of("src/test/java/" + named.group(1) + ".java")), true);
        }
        try (var files = Files.list(Path.of("src/test/java"))) {
            for (Path each : files.toList()) {
                String name = each.getFileName().toString().replace(".java", "");
                boolean isNamed = text.contains("| `" + name + "` |");
                CHECK.same(name + " is named", isNamed || !name.endsWith("Test"), true);
            }
        }
    }
}
