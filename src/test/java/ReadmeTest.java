import java.io.IOException;
import java.lang.reflect.Method;
import java.lang.reflect.Modifier;
import java.nio.file.Files;
import java.nio.file.Path;
import java.util.Arrays;
import java.util.List;
import java.util.Set;
import java.util.TreeSet;
import java.util.regex.Matcher;
import java.util.regex.Pattern;

/** The examples of README.md answer what it says, and every call has its row, an example, and an example of its refusal. */
public final class ReadmeTest {
    private static final String README = "README.md";
    private static final String NEW_OBJECT = "SignalBox box = new SignalBox();";
    private static final Pattern EXAMPLE = Pattern.compile("box\\.(\\w+)\\(([-\\d, ]*)\\);\\s+// (-?\\d+)(: .*)?");
    private static final Pattern ROW = Pattern.compile("\\| `(\\w+)\\(([\\w, ]*)\\)` \\|.+\\|.+\\|");
    private static final Set<String> NEVER_REFUSED = Set.of("passed");

    private static final Set<String> rows = new TreeSet<>();
    private static final Set<String> answered = new TreeSet<>();
    private static final Set<String> refused = new TreeSet<>();
    private static int wrong = 0;

    public static void main(String[] args) throws IOException, ReflectiveOperationException {
        List<String> lines = Files.readAllLines(Path.of(README));
        examples(lines);
        rows(lines);
        completeness();
        System.out.println(wrong == 0 ? "the page is right" : wrong + " lines are not right");
        if (wrong != 0) System.exit(1);
    }

    private static void right(boolean is, String text) {
        if (!is) {
            wrong++;
            System.out.println(README + ": " + text);
        }
    }

    private static void examples(List<String> lines) throws ReflectiveOperationException {
        boolean inside = false;
        SignalBox box = null;
        for (String line : lines) {
            if (line.startsWith("```")) {
                inside = line.equals("```java");
                box = null;
            } else if (inside && line.equals(NEW_OBJECT)) {
                box = new SignalBox();
            } else if (inside) {
                example(box, line);
            }
        }
    }

    private static void example(SignalBox box, String line) throws ReflectiveOperationException {
        Matcher example = EXAMPLE.matcher(line);
        // A line that is not understood is an error: else it would pass untested.
        if (box == null || !example.matches()) {
            right(false, "no example: " + line);
            return;
        }
        Object[] numbers = numbers(example.group(2));
        Class<?>[] types = new Class<?>[numbers.length];
        Arrays.fill(types, int.class);
        int got = (Integer) SignalBox.class.getMethod(example.group(1), types).invoke(box, numbers);
        int want = Integer.parseInt(example.group(3));
        right(got == want, line + " answered " + got);
        boolean isRefused = want == SignalBox.BAD || want == SignalBox.FULL;
        (isRefused ? refused : answered).add(example.group(1));
    }

    private static Object[] numbers(String text) {
        if (text.isBlank()) return new Object[0];
        String[] parts = text.split(", ");
        Object[] numbers = new Object[parts.length];
        for (int i = 0; i < parts.length; i++) numbers[i] = Integer.valueOf(parts[i]);
        return numbers;
    }

    private static void rows(List<String> lines) {
        for (String line : lines) {
            Matcher row = ROW.matcher(line);
            if (row.matches()) rows.add(row.group(1) + "/" + parameters(row.group(2)));
        }
    }

    private static int parameters(String text) {
        return text.isEmpty() ? 0 : text.split(", ").length;
    }

    private static void completeness() {
        right(rows.contains("SignalBox/0"), "no row for the constructor");
        for (Method method : SignalBox.class.getDeclaredMethods()) {
            if (!Modifier.isPublic(method.getModifiers())) continue;
            String name = method.getName();
            right(rows.contains(name + "/" + method.getParameterCount()), "no row for " + name);
            right(answered.contains(name), "no example of " + name);
            right(refused.contains(name) || NEVER_REFUSED.contains(name), "no example of " + name + " refused");
        }
    }
}
