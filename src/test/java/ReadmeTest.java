import java.lang.reflect.Method;
import java.nio.file.Files;
import java.nio.file.Path;
import java.util.regex.Matcher;
import java.util.regex.Pattern;

/** The calls that README.md shows, on one object, answer what stands behind them there. */
public final class ReadmeTest {
    private static final Pattern CALL = Pattern.compile("^m\\.(\\w+)\\(([^)]*)\\); +// (-?\\d+)\\b.*$");

    public static void main(String[] args) throws Exception {
        String readme = Files.readString(Path.of("README.md"));
        int from = readme.indexOf("```java\n");
        int to = readme.indexOf("\n```", from + 1);
        Check.that("an example", from >= 0 && to > from);
        MapsOfNothing m = new MapsOfNothing();
        int calls = 0;
        for (String line : readme.substring(from, to).split("\n")) {
            Matcher call = CALL.matcher(line);
            if (call.matches()) {
                Check.due(line, answer(m, call.group(1), call.group(2)), Long.parseLong(call.group(3)));
                calls++;
            } else {
                Check.that("a call: " + line, !line.startsWith("m."));
            }
        }
        Check.that("calls: " + calls, calls >= 14);
        everyCallIsNamed(readme);
        Check.finish("ReadmeTest");
    }

    private static long answer(MapsOfNothing m, String name, String numbers) throws Exception {
        String[] parts = numbers.isBlank() ? new String[0] : numbers.split(",");
        Object[] given = new Object[parts.length];
        Class<?>[] types = new Class<?>[parts.length];
        for (int i = 0; i < parts.length; i++) {
            given[i] = Long.decode(parts[i].trim()).intValue();
            types[i] = int.class;
        }
        return ((Number) MapsOfNothing.class.getMethod(name, types).invoke(m, given)).longValue();
    }

    private static void everyCallIsNamed(String readme) {
        for (Method method : MapsOfNothing.class.getDeclaredMethods()) {
            String name = method.getName();
            if (java.lang.reflect.Modifier.isPublic(method.getModifiers())) {
                Check.that("README names " + name, Pattern.compile("`" + name + "[`(]").matcher(readme).find());
            }
        }
    }
}
