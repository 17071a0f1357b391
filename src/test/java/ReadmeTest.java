import java.io.IOException;
import java.lang.reflect.Method;
import java.nio.file.Files;
import java.nio.file.Path;
import java.util.Arrays;
import java.util.List;
import java.util.Set;
import java.util.TreeSet;
import java.util.regex.Matcher;
import java.util.regex.Pattern;
import java.util.stream.Collectors;
import java.util.stream.Stream;

/**
 * README.md: the calls of its example answer what stands behind them, and its
 * table names every test. It runs in the project's root.
 */
public final class ReadmeTest {
    private static final Path README = Path.of("README.md");
    private static final Path TESTS = Path.of("src/test/java");

    private static final String MADE = "ReplayFlow flow = new ReplayFlow();";
    private static final String CLEARED = "flow.clear();";
    private static final Pattern CALL = Pattern.compile("flow\\.(\\w+)\\(([-\\d, ]*)\\); +// ([-\\w]+)(: .*)?");

    public static void main(String[] args) throws Exception {
        String readme = Files.readString(README);
        Check.sentence("README.md: the example");
        example(readme);
        Check.sentence("README.md: the table of the tests");
        table(readme);
        Check.finish();
    }

    private static void example(String readme) throws Exception {
        Matcher block = Pattern.compile("```java\n(.*?)```", Pattern.DOTALL).matcher(readme);
        Check.holds("there is one", block.find());
        List<String> lines = block.group(1).lines().filter(line -> !line.isBlank()).toList();
        Check.holds("it makes the object first", lines.get(0).equals(MADE));
        ReplayFlow flow = new ReplayFlow();
        for (String line : lines.subList(1, lines.size())) {
            carryOut(flow, line);
        }
        Check.holds("it has calls", lines.size() > 1);
        Check.holds("there is no other example", !block.find());
    }

    private static void carryOut(ReplayFlow flow, String line) throws Exception {
        Matcher call = CALL.matcher(line);
        if (line.equals(CLEARED)) {
            flow.clear();
        } else if (call.matches()) {
            Check.due(line, answerOf(flow, call.group(1), call.group(2)), numberOf(call.group(3)));
        } else {
            Check.holds("a call with its answer: " + line, false);
        }
    }

    private static int answerOf(ReplayFlow flow, String name, String arguments) throws Exception {
        Object[] given = Stream.of(arguments.split(", *")).filter(text -> !text.isEmpty()).map(Integer::valueOf).toArray();
        Class<?>[] types = new Class<?>[given.length];
        Arrays.fill(types, int.class);
        Method method = ReplayFlow.class.getMethod(name, types);
        return (Integer) method.invoke(flow, given);
    }

    /** The number itself, or that of a constant. */
    private static int numberOf(String answer) throws Exception {
        return answer.matches("-?\\d+") ? Integer.parseInt(answer) : ReplayFlow.class.getField(answer).getInt(null);
    }

    private static void table(String readme) throws IOException {
        Set<String> named = new TreeSet<>();
        Matcher row = Pattern.compile("(?m)^\\| `(\\w+)` \\|").matcher(readme);
        while (row.find()) {
            named.add(row.group(1));
        }
        try (Stream<Path> files = Files.list(TESTS)) {
            Set<String> there = files.map(file -> file.getFileName().toString())
                    .filter(name -> name.endsWith("Test.java"))
                    .map(name -> name.replace(".java", ""))
                    .collect(Collectors.toCollection(TreeSet::new));
            Check.holds("there are " + there + ", named are " + named, named.equals(there));
        }
    }
}
