import java.io.IOException;
import java.lang.reflect.Method;
import java.lang.reflect.Modifier;
import java.nio.file.Files;
import java.nio.file.Path;
import java.util.HashSet;
import java.util.List;
import java.util.Set;
import java.util.regex.Matcher;
import java.util.regex.Pattern;

/** README.md shows every call of the face; its calls are made here, and each answers as the page says behind it. */
public final class ReadmeTest extends TownTest {
    private static final Pattern TEXT = Pattern.compile("String text = \"([^\"]*)\";");
    private static final Pattern CALL = Pattern.compile("town\\.(\\w+)\\(([^)]*)\\); +// +(-?\\d+) .*");

    public static void main(String[] args) throws IOException, ReflectiveOperationException {
        List<String> page = Files.readAllLines(Path.of("README.md"));
        WheelTown town = new WheelTown();
        Set<String> shown = new HashSet<>(Set.of("type"));
        for (String line : page) {
            Matcher text = TEXT.matcher(line);
            if (text.matches()) {
                type(town, text.group(1));
            }
            Matcher call = CALL.matcher(line);
            if (call.matches()) {
                shown.add(call.group(1));
                due(line, Long.parseLong(call.group(3)), answer(town, call.group(1), call.group(2)));
            } else {
                due("a call without its answer (1: it is): " + line, 0, line.startsWith("town.") ? 1 : 0);
            }
        }
        for (Method method : WheelTown.class.getDeclaredMethods()) {
            if (Modifier.isPublic(method.getModifiers())) {
                due("README.md shows (1: it does) " + method.getName(), 1, shown.contains(method.getName()) ? 1 : 0);
            }
        }
        tests(String.join("\n", page));
        end();
    }

    private static long answer(WheelTown town, String name, String told) throws ReflectiveOperationException {
        String[] numbers = told.isEmpty() ? new String[0] : told.split(", ");
        Object[] values = new Object[numbers.length];
        Class<?>[] types = new Class<?>[numbers.length];
        for (int i = 0; i < numbers.length; i++) {
            values[i] = Integer.valueOf(numbers[i]);
            types[i] = int.class;
        }
        return ((Number) WheelTown.class.getMethod(name, types).invoke(town, values)).longValue();
    }

    /** The page lists every test of the project. */
    private static void tests(String page) throws IOException {
        try (var files = Files.list(Path.of("src/test/java"))) {
            for (Path file : files.toList()) {
                String name = file.getFileName().toString().replace(".java", "");
                due("README.md names (1: it does) " + name, 1, page.contains("`" + name + "`") ? 1 : 0);
            }
        }
    }
}
