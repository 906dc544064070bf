import java.io.IOException;
import java.lang.reflect.Method;
import java.lang.reflect.Modifier;
import java.nio.file.Files;
import java.nio.file.Path;
import java.util.List;
import java.util.Map;
import java.util.TreeMap;
import java.util.regex.Matcher;
import java.util.regex.Pattern;
import java.util.stream.Stream;

/** README.md: its lines of Java, run one after the other on one object; no call of the face, no test is left out. */
public final class ReadmeTest {
    private static final Path README = Path.of("README.md");
    private static final Path TESTS = Path.of("src/test/java");
    private static final Pattern BLOCK = Pattern.compile("```java\n(.*?)```", Pattern.DOTALL);
    private static final Pattern CALL = Pattern.compile("x\\.(\\w+)\\((.*?)\\); +// (-?\\d+)\\b.*");
    private static final Pattern TABLED = Pattern.compile("`(\\w+)\\(([^)`]*)\\)`");

    private final Map<String, Method> calls = new TreeMap<>();
    private final String readme = Files.readString(README);
    private BracketDraws x;

    private ReadmeTest() throws IOException {
        for (Method method : BracketDraws.class.getDeclaredMethods()) {
            if (Modifier.isPublic(method.getModifiers())) {
                calls.put(method.getName(), method);
            }
        }
    }

    public static void main(String[] args) throws IOException, ReflectiveOperationException {
        ReadmeTest test = new ReadmeTest();
        test.linesOfJava();
        test.eachCallIsTold();
        test.eachTestIsTold();
        Check.end();
    }

    private void linesOfJava() throws ReflectiveOperationException {
        Matcher blocks = BLOCK.matcher(readme);
        while (blocks.find()) {
            for (String line : blocks.group(1).split("\n")) {
                run(line);
            }
        }
    }

    private void run(String line) throws ReflectiveOperationException {
        if (line.equals("BracketDraws x = new BracketDraws();")) {
            x = new BracketDraws();
            return;
        }
        Matcher call = CALL.matcher(line);
        boolean known = call.matches() && x != null && calls.containsKey(call.group(1));
        Check.holds("README.md has a call with its answer: " + line, known);
        if (known) {
            Method method = calls.get(call.group(1));
            String[] given = call.group(2).isEmpty() ? new String[0] : call.group(2).split(", ");
            Check.due("arguments of " + line, given.length, method.getParameterCount());
            Check.due(line, answer(method, given), Long.parseLong(call.group(3)));
        }
    }

    private long answer(Method method, String[] given) throws ReflectiveOperationException {
        Object[] values = new Object[given.length];
        for (int i = 0; i < given.length; i++) {
            long value = given[i].startsWith("'") ? given[i].charAt(1) : Long.parseLong(given[i]);
            boolean wide = method.getParameterTypes()[i] == long.class;
            values[i] = wide ? (Object) value : (Object) (int) value;
        }
        return ((Number) method.invoke(x, values)).longValue();
    }

    /** In a table, with as many arguments as it has. */
    private void eachCallIsTold() {
        Map<String, Integer> told = new TreeMap<>();
        for (String line : readme.split("\n")) {
            Matcher tabled = TABLED.matcher(line.startsWith("| ") ? line.split(" \\| ")[0] : "");
            while (tabled.find()) {
                told.put(tabled.group(1), tabled.group(2).isEmpty() ? 0 : tabled.group(2).split(", ").length);
            }
        }
        Check.due("the calls told", told.keySet().toString(), calls.keySet().toString());
        for (String name : told.keySet()) {
            int due = calls.containsKey(name) ? calls.get(name).getParameterCount() : -1;
            Check.due("arguments told of " + name, told.get(name), due);
        }
    }

    private void eachTestIsTold() throws IOException {
        for (Path test : tests()) {
            String name = test.getFileName().toString().replace(".java", "");
            Check.holds("README.md tells of " + name, readme.contains("| `" + name + "` |"));
        }
        Check.holds("README.md tells how to run all", readme.contains("\n    .ci/run\n"));
        Check.holds("README.md tells how to run one", readme.contains("\n    .ci/run DrawsTest\n"));
    }

    private static List<Path> tests() throws IOException {
        try (Stream<Path> files = Files.list(TESTS)) {
            return files.filter(file -> file.toString().endsWith("Test.java")).sorted().toList();
        }
    }
}
