import java.io.IOException;
import java.lang.reflect.Method;
import java.nio.charset.StandardCharsets;
import java.nio.file.Files;
import java.nio.file.Path;
import java.util.HashMap;
import java.util.List;
import java.util.Map;
import java.util.Set;
import java.util.TreeSet;
import java.util.regex.Matcher;
import java.util.regex.Pattern;
import java.util.stream.Collectors;
import java.util.stream.Stream;

/**
 * What README.md shows of the class's use is what the class answers: each line of its Java is called, and
 * the number behind it is due. It shows every method, names the findings by their numbers, and
 * lists every test. It is run in the project's folder.
 */
public final class ReadmeTest extends Check {
    private static final Path README = Path.of("README.md");
    private static final Path TESTS = Path.of("src/test/java");

    private static final Pattern MADE = Pattern.compile("LessonSpiral x = new LessonSpiral\\(\\);");
    private static final Pattern CALL =
        Pattern.compile("(?:int (\\w+) = )?x\\.(\\w+)\\(([^()]*)\\);\\s+// (-?\\d+)( [A-Z]+)?: \\S.*");
    private static final Pattern FINDING = Pattern.compile("\\| (-\\d+) \\| ([A-Z]+) \\| \\S.* \\|");
    private static final Pattern LISTED = Pattern.compile("- `(\\w+)`: \\S.*");

    private static final Map<Integer, String> FINDINGS = Map.of(BEYOND, "BEYOND", MISSING, "MISSING",
        SIZE, "SIZE", KIND, "KIND", FULL, "FULL", NONE, "NONE", RING, "RING", LONG, "LONG");

    private static final Map<String, Integer> variables = new HashMap<>();
    private static final Set<String> shown = new TreeSet<>();
    private static LessonSpiral x;

    private static void wrong(String what) {
        due(what, 1, 0);
    }

    private static void same(String what, Object got, Object want) {
        due(what + ": " + got + " beside " + want + ":", got.equals(want) ? 0 : 1, 0);
    }

    private static Object value(String word) {
        if (word.equals("true") || word.equals("false")) {
            return word.equals("true");
        }
        Integer known = variables.get(word);
        return known != null ? known : (Object) Integer.valueOf(word);
    }

    private static Method methodOf(String name) {
        for (Method m : LessonSpiral.class.getMethods()) {
            if (m.getDeclaringClass() == LessonSpiral.class && m.getName().equals(name)) {
                return m;
            }
        }
        return null;
    }

    private static void call(String line, Matcher m) throws ReflectiveOperationException {
        String words = m.group(3);
        Object[] arguments = words.isEmpty() ? new Object[0]
            : Stream.of(words.split(", ")).map(ReadmeTest::value).toArray();
        Method method = methodOf(m.group(2));
        if (method == null || x == null) {
            wrong("README cannot call " + line);
            return;
        }
        int answer = (int) method.invoke(x, arguments);
        due("README " + line, answer, Integer.parseInt(m.group(4)));
        String name = m.group(5) == null ? "no finding" : m.group(5).trim();
        same("README's name of what is answered by " + line, name, FINDINGS.getOrDefault(answer, "no finding"));
        shown.add(m.group(2));
        if (m.group(1) != null) {
            variables.put(m.group(1), answer);
        }
    }

    private static void javaLine(String line) throws ReflectiveOperationException {
        Matcher m = CALL.matcher(line);
        if (MADE.matcher(line).matches()) {
            x = new LessonSpiral();
        } else if (m.matches()) {
            call(line, m);
        } else {
            wrong("README has a line that is no call with its answer: " + line);
        }
    }

    private static void run(List<String> lines) throws ReflectiveOperationException {
        boolean isJava = false;
        for (String line : lines) {
            if (line.startsWith("```")) {
                isJava = line.equals("```java");
            } else if (isJava) {
                javaLine(line);
            }
        }
        Set<String> face = Stream.of(LessonSpiral.class.getMethods())
            .filter(m -> m.getDeclaringClass() == LessonSpiral.class)
            .map(Method::getName)
            .collect(Collectors.toCollection(TreeSet::new));
        same("methods that README shows", shown, face);
    }

    private static void findings(List<String> lines) {
        Map<Integer, String> told = new HashMap<>();
        for (String line : lines) {
            Matcher m = FINDING.matcher(line);
            if (m.matches()) {
                told.put(Integer.valueOf(m.group(1)), m.group(2));
            }
        }
        same("findings that README names", told, FINDINGS);
    }

    private static void tests(List<String> lines) throws IOException {
        Set<String> listed = new TreeSet<>();
        for (String line : lines) {
            Matcher m = LISTED.matcher(line);
            if (m.matches()) {
                listed.add(m.group(1) + ".java");
            }
        }
        try (Stream<Path> files = Files.list(TESTS)) {
            Set<String> there = files.map(f -> f.getFileName().toString())
                .collect(Collectors.toCollection(TreeSet::new));
            same("tests that README lists", listed, there);
        }
    }

    public static void main(String[] args) throws IOException, ReflectiveOperationException {
        List<String> lines = Files.readAllLines(README, StandardCharsets.UTF_8);
        run(lines);
        findings(lines);
        tests(lines);
        end();
    }
}
