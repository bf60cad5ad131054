import java.io.IOException;
import java.lang.reflect.Method;
import java.lang.reflect.Modifier;
import java.nio.file.Files;
import java.nio.file.Path;
import java.util.regex.Matcher;
import java.util.regex.Pattern;

/** What README.md tells of the class: its example is run, and its tables name every call and every test. */
public final class ReadmeTest {
    private static final Checks CHECKS = new Checks();
    private static final Pattern STEP = Pattern.compile("x\\.(\\w+)\\(([^)]*)\\);\\s+// (-?\\d+).*");

    private static void theExample(String readme) throws ReflectiveOperationException {
        String example = readme.replaceAll("(?s).*```java\n(.*?)```.*", "$1");
        FirstPancake x = new FirstPancake();
        int steps = 0;
        for (String line : example.split("\n")) {
            Matcher step = STEP.matcher(line);
            if (step.matches()) {
                CHECKS.due("README: " + line, answer(x, step.group(1), step.group(2)), Long.parseLong(step.group(3)));
                steps++;
            }
        }
        CHECKS.due("README: each line behind the first is a step", steps, example.split("\n").length - 1);
    }

    private static long answer(FirstPancake x, String name, String arguments) throws ReflectiveOperationException {
        String[] texts = arguments.isEmpty() ? new String[0] : arguments.split(", ");
        Object[] values = new Object[texts.length];
        Method method = null;
        for (Method m : FirstPancake.class.getMethods()) {
            method = m.getName().equals(name) ? m : method;
        }
        for (int i = 0; i < texts.length; i++) {
            long value = Long.decode(texts[i].replace("L", ""));
            if (method.getParameterTypes()[i] == long.class) {
                values[i] = value;
            } else {
                values[i] = (int) value;
            }
        }
        return ((Number) method.invoke(x, values)).longValue();
    }

    private static void theCalls(String readme) {
        for (Method m : FirstPancake.class.getDeclaredMethods()) {
            if (Modifier.isPublic(m.getModifiers())) {
                Matcher row = Pattern.compile("\n\\| `" + m.getName() + "\\(([^)]*)\\)` \\|").matcher(readme);
                boolean found = row.find();
                int named = found && !row.group(1).isEmpty() ? row.group(1).split(", ").length : 0;
                CHECKS.due("README: a row for " + m.getName(), found ? 1 : 0, 1);
                CHECKS.due("README: arguments of " + m.getName(), named, m.getParameterCount());
            }
        }
    }

    private static void theTests(String readme) throws IOException {
        try (var files = Files.list(Path.of("src/test/java"))) {
            files.map(f -> f.getFileName().toString()).filter(f -> f.endsWith("Test.java")).forEach(f ->
                    CHECKS.due("README: a row for " + f, readme.contains("\n| `" + f.replace(".java", "") + "` |") ? 1 : 0, 1));
        }
    }

    public static void main(String[] args) throws Exception {
        String readme = Files.readString(Path.of("README.md"));
        theExample(readme);
        theCalls(readme);
        theTests(readme);
        CHECKS.end();
    }
}
