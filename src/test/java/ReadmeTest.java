import java.io.IOException;
import java.lang.reflect.Method;
import java.lang.reflect.Modifier;
import java.nio.file.Files;
import java.nio.file.Path;
import java.util.HashMap;
import java.util.List;
import java.util.Map;
import java.util.regex.Matcher;
import java.util.regex.Pattern;
import java.util.stream.Stream;

/**
 * What README.md shows of the class is so: its example is run, and it leaves out no call and no test.
 * It is run from the project's root, as .ci/run does.
 */
public final class ReadmeTest {
    private static final Path README = Path.of("README.md");
    private static final Path TESTS = Path.of("src/test/java");
    private static final Pattern EXAMPLE = Pattern.compile("(?s)```java\\n(.*?)```");
    private static final Pattern CALL = Pattern.compile("(?:int (\\w+) = )?desk\\.(\\w+)\\((.*?)\\); +// (-?\\w+): .+");

    private static final ResponseDesk desk = new ResponseDesk();
    private static final Map<String, Integer> names = new HashMap<>();
    private static int wrong = 0;

    private static void due(String what, boolean holds) {
        if (!holds) {
            wrong++;
            System.out.println("README.md: " + what);
        }
    }

    private static Object[] arguments(String text) {
        if (text.isEmpty()) {
            return new Object[0];
        }
        return Stream.of(text.split(", "))
            .map(one -> names.containsKey(one) ? names.get(one) : Integer.valueOf(one))
            .toArray();
    }

    private static Method method(String name) throws NoSuchMethodException {
        for (Method m : ResponseDesk.class.getDeclaredMethods()) {
            if (m.getName().equals(name) && Modifier.isPublic(m.getModifiers())) {
                return m;
            }
        }
        throw new NoSuchMethodException(name);
    }

    private static void runLine(String line) throws ReflectiveOperationException {
        Matcher call = CALL.matcher(line);
        if (!call.matches()) {
            due("a line that is no call with its answer: " + line, false);
            return;
        }
        Object answer = method(call.group(2)).invoke(desk, arguments(call.group(3)));
        due(line + " .. but answered " + answer, answer.toString().equals(call.group(4)));
        if (call.group(1) != null) {
            names.put(call.group(1), (Integer) answer);
        }
    }

    private static void runExample(String text) throws ReflectiveOperationException {
        Matcher example = EXAMPLE.matcher(text);
        due("no example", example.find());
        List<String> lines = example.group(1).lines().toList();
        due("the example makes no object first", lines.get(0).equals("ResponseDesk desk = new ResponseDesk();"));
        for (String line : lines.subList(1, lines.size())) {
            runLine(line);
        }
    }

    private static void nothingLeftOut(String text) throws IOException {
        for (Method m : ResponseDesk.class.getDeclaredMethods()) {
            boolean told = text.contains("| `" + m.getName() + "(");
            due("the call " + m.getName() + " is left out", told || !Modifier.isPublic(m.getModifiers()));
        }
        try (Stream<Path> tests = Files.list(TESTS)) {
            tests.map(test -> test.getFileName().toString().replace(".java", ""))
                .forEach(name -> due("the test " + name + " is left out", text.contains("- `" + name + "`: ")));
        }
    }

    public static void main(String[] args) throws IOException, ReflectiveOperationException {
        String text = Files.readString(README);
        runExample(text);
        nothingLeftOut(text);
        System.out.println(wrong == 0 ? "the example answers as it says" : wrong + " things are not so");
        if (wrong != 0) {
            System.exit(1);
        }
    }
}
