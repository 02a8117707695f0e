import java.io.IOException;
import java.lang.reflect.Method;
import java.nio.file.Files;
import java.nio.file.Path;
import java.util.Set;
import java.util.TreeSet;
import java.util.regex.Matcher;
import java.util.regex.Pattern;

/** README.md: its example answers what it says, and it names every call and every test. */
public final class ReadmeTest {
    private static final Pattern ROW = Pattern.compile("desk\\.(\\w+)\\(([-\\d, ]*)\\);\\s*// (-?\\d+).*");

    public static void main(String[] args) throws IOException, ReflectiveOperationException {
        String readme = Files.readString(Path.of("README.md"));
        Set<String> shown = exampleAnswers(readme);
        everyCallIsShown(readme, shown);
        everyTestIsNamed(readme);
        Check.end();
    }

    private static Set<String> exampleAnswers(String readme) throws ReflectiveOperationException {
        Check.sentence("README.md: the example");
        Set<String> shown = new TreeSet<>();
        TableauDesk desk = new TableauDesk();
        for (String line : readme.split("\n")) {
            if (line.startsWith("desk.")) {
                Matcher row = ROW.matcher(line);
                Check.due("can be read: " + line, row.matches() ? 1 : 0, 1);
                Check.due(line, call(desk, row.group(1), row.group(2)), Long.parseLong(row.group(3)));
                shown.add(row.group(1));
            }
        }
        return shown;
    }

    private static void everyCallIsShown(String readme, Set<String> shown) {
        Check.sentence("README.md: every call is told and shown");
        for (Method method : TableauDesk.class.getMethods()) {
            if (method.getDeclaringClass() == TableauDesk.class) {
                String name = method.getName();
                Check.due("told: " + name, readme.contains("| `" + name + "(") ? 1 : 0, 1);
                Check.due("shown: " + name, shown.contains(name) ? 1 : 0, 1);
            }
        }
    }

    private static void everyTestIsNamed(String readme) throws IOException {
        Check.sentence("README.md: every test is named");
        try (var files = Files.list(Path.of("src/test/java"))) {
            files.map(file -> file.getFileName().toString().replace(".java", "")).forEach(name ->
                Check.due("named: " + name, readme.contains("`" + name + "`") ? 1 : 0, 1));
        }
    }

    private static int call(TableauDesk desk, String name, String written)
            throws ReflectiveOperationException {
        String[] parts = written.isEmpty() ? new String[0] : written.split(", *");
        Class<?>[] types = new Class<?>[parts.length];
        Object[] arguments = new Object[parts.length];
        for (int i = 0; i < parts.length; i++) {
            types[i] = int.class;
            arguments[i] = Integer.valueOf(parts[i]);
        }
        return (Integer) TableauDesk.class.getMethod(name, types).invoke(desk, arguments);
    }
}
