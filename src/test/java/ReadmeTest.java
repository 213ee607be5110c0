import java.io.File;
import java.io.IOException;
import java.lang.reflect.Method;
import java.lang.reflect.Modifier;
import java.nio.file.Files;
import java.nio.file.Path;
import java.util.Arrays;
import java.util.Set;
import java.util.TreeSet;
import java.util.regex.Matcher;
import java.util.regex.Pattern;

/** What README.md says holds: its examples are called as they stand there, and it leaves out no method and no test. */
public final class ReadmeTest {
    private static final Pattern EXAMPLE = Pattern.compile("grid\\.(\\w+)\\(([-0-9, ]*)\\); +// (-?\\d+).*");
    private static final Pattern TABLE_ROW = Pattern.compile("\\| `(\\w+)\\(([a-z, ]*)\\)` \\| .*");
    private static final Pattern DRAWN_ROW =
        Pattern.compile(" *(\\d+) --(\\d+)-- *(\\d+) --(\\d+)-- *(\\d+) --(\\d+)-- *(\\d+)");
    private static final Pattern DRAWN_COLUMNS = Pattern.compile(" +(\\d+) +(\\d+) +(\\d+) +(\\d+)");

    public static void main(String[] args) throws IOException, ReflectiveOperationException {
        String text = Files.readString(Path.of("README.md"));
        examples(text);
        methods(text);
        drawing(text);
        testsAndHelpers(text);
        Due.end();
    }

    private static void examples(String text) throws ReflectiveOperationException {
        Due.sentence("README.md: After // stands what the call answers");
        Due.holds("it begins with set(between(0, 1), 9)", text.contains("grid.set(grid.between(0, 1), 9);"));
        GridDuals grid = new GridDuals();
        grid.set(grid.between(0, 1), 9);
        Set<String> called = new TreeSet<>();
        for (String line : text.split("\n")) {
            Matcher example = EXAMPLE.matcher(line);
            if (example.matches()) {
                called.add(example.group(1));
                Due.is(line, call(grid, example.group(1), numbers(example.group(2))), Long.parseLong(example.group(3)));
            } else {
                Due.holds("read as an example: " + line, !line.matches("grid\\..*//.*"));
            }
        }
        for (Method method : GridDuals.class.getDeclaredMethods()) {
            if (Modifier.isPublic(method.getModifiers())) {
                Due.holds("an example of " + method.getName(), called.contains(method.getName()));
            }
        }
    }

    private static Object[] numbers(String arguments) {
        return Arrays.stream(arguments.split(", ")).filter(word -> !word.isEmpty()).map(Integer::valueOf).toArray();
    }

    private static int call(GridDuals grid, String name, Object[] arguments) throws ReflectiveOperationException {
        Class<?>[] types = new Class<?>[arguments.length];
        Arrays.fill(types, int.class);
        return (Integer) GridDuals.class.getMethod(name, types).invoke(grid, arguments);
    }

    private static void methods(String text) {
        Due.sentence("README.md: The methods");
        Set<String> named = new TreeSet<>();
        for (String line : text.split("\n")) {
            Matcher row = TABLE_ROW.matcher(line);
            if (row.matches()) {
                String arguments = row.group(2);
                named.add(row.group(1) + "/" + (arguments.isEmpty() ? 0 : arguments.split(", ").length));
            }
        }
        Set<String> due = new TreeSet<>(Set.of("GridDuals/0"));
        for (Method method : GridDuals.class.getDeclaredMethods()) {
            if (Modifier.isPublic(method.getModifiers())) {
                due.add(method.getName() + "/" + method.getParameterCount());
            }
        }
        Due.holds("methods named " + named + ", due are " + due, named.equals(due));
    }

    private static void drawing(String text) {
        Due.sentence("README.md: The grid");
        GridDuals grid = new GridDuals();
        int rows = 0;
        int below = 0;
        for (String line : text.split("\n")) {
            Matcher row = DRAWN_ROW.matcher(line);
            Matcher columns = DRAWN_COLUMNS.matcher(line);
            if (row.matches()) {
                for (int c = 0; c < 4; c++) {
                    Due.is("crossing in " + line, group(row, 2 * c + 1), 4 * rows + c);
                }
                for (int c = 0; c < 3; c++) {
                    Due.is("street in " + line, group(row, 2 * c + 2), grid.between(4 * rows + c, 4 * rows + c + 1));
                }
                rows++;
            } else if (columns.matches()) {
                for (int c = 0; c < 4; c++) {
                    Due.is("street in " + line, group(columns, c + 1), grid.between(4 * below + c, 4 * below + c + 4));
                }
                below++;
            }
        }
        Due.is("rows drawn", rows, 3);
        Due.is("rows of streets below them", below, 2);
    }

    private static int group(Matcher row, int at) {
        return Integer.parseInt(row.group(at));
    }

    private static void testsAndHelpers(String text) {
        Due.sentence("README.md: Tests");
        for (File file : new File("src/test/java").listFiles()) {
            String name = file.getName().replace(".java", "");
            Due.holds("names " + name, text.contains("`" + name + "`"));
        }
    }
}
