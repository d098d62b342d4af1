import java.io.IOException;
import java.lang.reflect.Method;
import java.nio.file.Files;
import java.nio.file.Path;
import java.util.List;
import java.util.regex.Matcher;
import java.util.regex.Pattern;
import java.util.stream.Stream;

/** README.md shows how the class is used: its examples answer what they tell, and no call is left out. */
public final class ReadmeTest {
    private static final Checks CHECKS = new Checks();

    private static final Pattern MADE = Pattern.compile("StreamWires x = new StreamWires\\(([^)]*)\\);.*");
    private static final Pattern CALLED = Pattern.compile("x\\.(\\w+)\\(([^)]*)\\);\\s+// (-?\\d+|true|false)(:.*)?");

    private static StreamWires x;
    private static int examples;
    private static int calls;

    public static void main(String[] args) throws IOException, ReflectiveOperationException {
        List<String> lines = Files.readAllLines(Path.of("README.md"));
        examples(lines);
        everyCall(lines);
        CHECKS.end();
    }

    private static void examples(List<String> lines) throws ReflectiveOperationException {
        boolean inside = false;
        for (String line : lines) {
            if (line.startsWith("```")) {
                inside = line.equals("```java");
            } else if (inside) {
                example(line);
            }
        }
        CHECKS.due("examples in README.md", examples >= 2, true);
        CHECKS.due("calls in them", calls >= 20, true);
    }

    private static void example(String line) throws ReflectiveOperationException {
        Matcher made = MADE.matcher(line);
        Matcher called = CALLED.matcher(line);
        if (made.matches()) {
            Object[] five = numbers(made.group(1));
            x = (StreamWires) StreamWires.class.getConstructors()[0].newInstance(five);
            examples++;
        } else if (called.matches()) {
            Object got = methodNamed(called.group(1)).invoke(x, numbers(called.group(2)));
            CHECKS.due(line + " (it answered " + got + ")", String.valueOf(got).equals(called.group(3)), true);
            calls++;
        } else {
            CHECKS.due("a line that tells a call and its answer: " + line, false, true);
        }
    }

    private static Object[] numbers(String text) {
        return Stream.of(text.split(",")).map(String::trim).map(Integer::valueOf).toArray();
    }

    private static Method methodNamed(String name) throws NoSuchMethodException {
        for (Method method : StreamWires.class.getMethods()) {
            if (method.getDeclaringClass() == StreamWires.class && method.getName().equals(name)) {
                return method;
            }
        }
        throw new NoSuchMethodException(name);
    }

    private static void everyCall(List<String> lines) {
        for (Method method : StreamWires.class.getMethods()) {
            if (method.getDeclaringClass() == StreamWires.class) {
                boolean told = lines.stream().anyMatch(line -> line.startsWith("|") && tellsCall(line, method));
                CHECKS.due("the table of calls in README.md has " + method.getName(), told, true);
            }
        }
    }

    private static boolean tellsCall(String line, Method method) {
        Matcher call = Pattern.compile("`" + method.getName() + "\\(([^)]*)\\)`").matcher(line);
        return call.find() && call.group(1).split(",").length == method.getParameterCount();
    }
}
