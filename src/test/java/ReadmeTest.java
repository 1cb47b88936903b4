import java.lang.reflect.Method;
import java.lang.reflect.Modifier;
import java.nio.file.Files;
import java.nio.file.Path;
import java.util.List;
import java.util.Set;
import java.util.TreeSet;
import java.util.regex.Matcher;
import java.util.regex.Pattern;

/** The examples of README.md answer as it says behind each call, and leave no call of the class out. */
public final class ReadmeTest {
    private static final Pattern CALL = Pattern.compile("band\\.(\\w+)\\(([^()]*)\\); +// (-?\\d+)(:.*)?");
    private static final String MAKES = "FieldBand band = new FieldBand();";

    private static int wrong = 0;

    private static void report(String text) {
        wrong++;
        System.out.println("README.md: " + text);
    }

    public static void main(String[] args) throws Exception {
        Path source = Path.of(System.getProperty("fieldband.source", "src/main/java/FieldBand.java")).toAbsolutePath();
        Path root = source.getParent().getParent().getParent().getParent();
        Set<String> left = namesOfCalls();
        runExamples(Files.readAllLines(root.resolve("README.md")), left);
        if (!left.isEmpty()) report("no example of " + left);
        if (wrong != 0) System.exit(1);
    }

    private static Set<String> namesOfCalls() {
        Set<String> names = new TreeSet<>();
        for (Method method : FieldBand.class.getDeclaredMethods()) {
            if (Modifier.isPublic(method.getModifiers())) names.add(method.getName());
        }
        return names;
    }

    private static void runExamples(List<String> lines, Set<String> left) throws Exception {
        FieldBand band = null;
        boolean isExample = false;
        for (String line : lines) {
            if (line.startsWith("```")) {
                isExample = line.equals("```java");
            } else if (isExample && line.equals(MAKES)) {
                band = new FieldBand();
            } else if (isExample) {
                Matcher call = CALL.matcher(line);
                if (call.matches()) {
                    left.remove(call.group(1));
                    check(line, answer(band, call.group(1), call.group(2)), Integer.parseInt(call.group(3)));
                } else {
                    report("not understood: " + line);
                }
            }
        }
    }

    private static void check(String line, int got, int told) {
        if (got != told) report("answered " + got + ": " + line);
    }

    private static int answer(FieldBand band, String name, String numbers) throws Exception {
        String[] texts = numbers.isEmpty() ? new String[0] : numbers.split(", ");
        for (Method method : FieldBand.class.getDeclaredMethods()) {
            if (method.getName().equals(name) && method.getParameterCount() == texts.length) {
                Object[] values = new Object[texts.length];
                for (int i = 0; i < texts.length; i++) values[i] = value(texts[i], method.getParameterTypes()[i]);
                return (Integer) method.invoke(band, values);
            }
        }
        report("no such call: " + name + " of " + texts.length);
        return 0;
    }

    private static Object value(String text, Class<?> type) {
        long number = Long.decode(text.endsWith("L") ? text.substring(0, text.length() - 1) : text);
        if (type == long.class) return number;
        return (int) number;
    }
}
