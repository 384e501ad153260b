import java.io.IOException;
import java.lang.reflect.Method;
import java.lang.reflect.Modifier;
import java.nio.file.Files;
import java.nio.file.Path;
import java.util.Map;
import java.util.Set;
import java.util.TreeSet;
import java.util.regex.Matcher;
import java.util.regex.Pattern;

/** The examples of README.md: each call answers what stands behind it. Run from the project's folder. */
public final class ReadmeTest {
    private static final Checks checks = new Checks();
    private static final Pattern CALL = Pattern.compile("x\\.(\\w+)\\(([^)]*)\\);\\s*// (-?\\w+)\\b.*");
    private static final Map<String, Long> NAMED = Map.of("BAD", (long) SingleShares.BAD, "NO", (long) SingleShares.NO,
        "FULL", (long) SingleShares.FULL, "NONE", (long) SingleShares.NONE, "SPENT", (long) SingleShares.SPENT);
    private static final Set<String> PARTS = Set.of("### Fractions", "### Roads", "### All sums", "### Divisors", "### Pairs, tables");

    private static final Set<String> partsShown = new TreeSet<>();
    private static final Set<String> called = new TreeSet<>();
    private static SingleShares x;

    public static void main(String[] args) throws IOException, ReflectiveOperationException {
        boolean inside = false;
        String part = "";
        for (String line : Files.readAllLines(Path.of("README.md"))) {
            if (line.startsWith("```")) {
                inside = line.equals("```java");
                x = null;
            } else if (line.startsWith("#")) {
                part = line;
            } else if (inside) {
                read(part, line);
            }
        }
        checks.holds("an example for each part: " + partsShown, partsShown.equals(PARTS));
        for (Method method : SingleShares.class.getDeclaredMethods()) {
            if (Modifier.isPublic(method.getModifiers())) {
                checks.holds(method.getName() + " is shown", called.contains(method.getName()));
            }
        }
        checks.end();
    }

    private static void read(String part, String line) throws ReflectiveOperationException {
        if (line.equals("SingleShares x = new SingleShares();")) {
            x = new SingleShares();
            partsShown.add(part);
            return;
        }
        Matcher matcher = CALL.matcher(line);
        boolean readable = x != null && matcher.matches();
        checks.holds("can be read: " + line, readable);
        if (readable) {
            called.add(matcher.group(1));
            String answer = matcher.group(3);
            checks.due(part + " " + line, answer(matcher.group(1), matcher.group(2)), NAMED.containsKey(answer) ? NAMED.get(answer) : Long.parseLong(answer));
        }
    }

    private static long answer(String name, String told) throws ReflectiveOperationException {
        String[] words = told.isBlank() ? new String[0] : told.split(",\\s*");
        for (Method method : SingleShares.class.getDeclaredMethods()) {
            if (method.getName().equals(name) && method.getParameterCount() == words.length) {
                Object[] numbers = new Object[words.length];
                for (int i = 0; i < words.length; i++) {
                    long number = Long.decode(words[i]);
                    numbers[i] = method.getParameterTypes()[i] == long.class ? (Object) number : (Object) Math.toIntExact(number);
                }
                return ((Number) method.invoke(x, numbers)).longValue();
            }
        }
        throw new NoSuchMethodException(name + " with " + words.length + " numbers");
    }
}
