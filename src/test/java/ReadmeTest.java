import java.lang.reflect.Method;
import java.lang.reflect.Modifier;
import java.nio.file.Files;
import java.nio.file.Path;
import java.util.regex.Matcher;
import java.util.regex.Pattern;

/** README.md names each call, each code and each test, and its example holds. Runs in the project's folder. */
public final class ReadmeTest {
    private static final Checks CHECKS = new Checks();
    private static final String[] CODES = {"-1", "-2", "-3", "-4", "-5", "-6", "-31, -32, -33"};
    private static final String[] LINES = {"road", "speed", "gap", "start", "cross", "column", "split", "gather", "broken"};

    private static void names(String page, String what) {
        CHECKS.due("README.md tells of " + what, page.contains(what) ? 1 : 0, 1);
    }

    /** Each call has a row of its own, with as many numbers as it takes. */
    private static void calls(String page) {
        int rows = 0;
        for (Method m : ConvoyTown.class.getDeclaredMethods()) {
            if (!Modifier.isPublic(m.getModifiers())) {
                continue;
            }
            rows++;
            Matcher row = Pattern.compile("\n\\| `" + m.getName() + "\\(([^)]*)\\)` \\| ").matcher(page);
            boolean found = row.find();
            int many = !found || row.group(1).isEmpty() ? 0 : row.group(1).split(", ").length;
            CHECKS.due("README.md tells of " + m.getName(), found ? 1 : 0, 1);
            CHECKS.due("numbers of " + m.getName(), many, m.getParameterCount());
        }
        CHECKS.due("calls", rows, 33);
    }

    /** The rows "town.call(..); // answer: why" of the example, in their order. */
    private static void example(String page) throws Exception {
        ConvoyTown town = new ConvoyTown();
        Matcher row = Pattern.compile("\ntown\\.(\\w+)\\(([^)]*)\\);(?: *// (-?\\d+):)?").matcher(page);
        int rows = 0;
        while (row.find()) {
            String[] numbers = row.group(2).isEmpty() ? new String[0] : row.group(2).split(", ");
            Object[] arguments = new Object[numbers.length];
            Class<?>[] types = new Class<?>[numbers.length];
            for (int i = 0; i < numbers.length; i++) {
                arguments[i] = Integer.decode(numbers[i]);
                types[i] = int.class;
            }
            int got = (Integer) ConvoyTown.class.getMethod(row.group(1), types).invoke(town, arguments);
            if (row.group(3) != null) {
                CHECKS.due("the example's " + row.group(1), got, Integer.parseInt(row.group(3)));
                rows++;
            }
        }
        CHECKS.due("answers in the example", rows, 5);
    }

    public static void main(String[] args) throws Exception {
        String page = Files.readString(Path.of("README.md"));
        calls(page);
        example(page);
        for (String code : CODES) {
            names(page, "\n| " + code + " | ");
        }
        for (String line : LINES) {
            names(page, "\n| `" + line + " ");
        }
        names(page, ".ci/run");
        for (String file : Path.of("src/test/java").toFile().list()) {
            if (file.endsWith(".java")) {
                names(page, "| `" + file.substring(0, file.length() - 5) + "` |");
            }
        }
        CHECKS.finish();
    }
}
