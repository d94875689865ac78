import java.io.IOException;
import java.lang.reflect.InvocationTargetException;
import java.lang.reflect.Method;
import java.nio.file.Files;
import java.nio.file.Path;
import java.util.HashMap;
import java.util.Map;
import java.util.regex.Matcher;
import java.util.regex.Pattern;
import java.util.stream.Stream;

/** README.md tells the truth: its lines answer what stands behind them, and it leaves nothing out. */
public final class ReadmeTest {
    private static final Path TESTS = Path.of("src/test/java");
    private static final Pattern EXAMPLE = Pattern.compile("(?s)```java\n(.*?)```");
    private static final Pattern CALL = Pattern.compile("(?:int (\\w+) = )?store\\.(\\w+)\\(([^)]*)\\);");
    private static final Pattern ANSWER = Pattern.compile(".*\\); +// (throws \\w+|[\\w.-]+)(, .*)?");
    private static final Pattern TEST = Pattern.compile("(?m)^- `(\\w+Test)`: ");
    private static final String START = "ColdFrame store = new ColdFrame();";

    private final Check check = new Check();
    private final ColdFrame store = new ColdFrame();
    private final Map<String, Object> named = new HashMap<>(Map.of("true", true, "false", false));
    private final String readme;

    private ReadmeTest() throws IOException {
        readme = Files.readString(Path.of("README.md"));
    }

    public static void main(String[] args) throws IOException {
        ReadmeTest test = new ReadmeTest();
        test.examples();
        test.calls();
        test.tests();
        test.check.end("ReadmeTest");
    }

    private void examples() {
        EXAMPLE.matcher(readme).results().flatMap(example -> example.group(1).lines())
                .filter(line -> !line.equals(START)).forEach(this::example);
    }

    /** What stands behind a line is what its last call answers; those ahead of it only lead there. */
    private void example(String line) {
        Matcher answer = ANSWER.matcher(line);
        Matcher call = CALL.matcher(line);
        String got = "no call";
        while (call.find()) {
            got = answerOf(call.group(2), call.group(3), call.group(1));
        }
        check.due("README: " + line, got, answer.matches() ? answer.group(1) : "an answer behind it");
    }

    private String answerOf(String called, String words, String name) {
        Method method = Stream.of(ColdFrame.class.getDeclaredMethods())
                .filter(m -> m.getName().equals(called)).findFirst().orElseThrow();
        Object[] arguments = Stream.of(words.split(", ")).filter(word -> !word.isEmpty())
                .map(word -> named.containsKey(word) ? named.get(word) : Integer.valueOf(word)).toArray();
        try {
            Object answer = method.invoke(store, arguments);
            if (name != null) {
                named.put(name, answer);
            }
            return answer.toString();
        } catch (InvocationTargetException thrown) {
            return "throws " + thrown.getCause().getClass().getSimpleName();
        } catch (IllegalAccessException hidden) {
            throw new IllegalStateException(hidden);
        }
    }

    private void calls() {
        for (Method method : ColdFrame.class.getMethods()) {
            if (method.getDeclaringClass() == ColdFrame.class) {
                Matcher there = Pattern.compile("[.`]" + method.getName() + "[(`]").matcher(readme);
                check.due("README names " + method.getName(), there.find(), true);
            }
        }
        for (Class<?> inside : ColdFrame.class.getDeclaredClasses()) {
            String name = "`" + inside.getSimpleName() + "`";
            check.due("README names " + name, readme.contains(name), true);
        }
    }

    private void tests() throws IOException {
        try (Stream<Path> files = Files.list(TESTS)) {
            files.map(file -> file.getFileName().toString()).filter(file -> file.endsWith("Test.java"))
                    .map(file -> "- `" + file.replace(".java", "`: "))
                    .forEach(line -> check.due("README tells of " + line, readme.contains(line), true));
        }
        TEST.matcher(readme).results().map(told -> told.group(1) + ".java")
                .forEach(file -> check.due(file + " is there", Files.exists(TESTS.resolve(file)), true));
    }
}
