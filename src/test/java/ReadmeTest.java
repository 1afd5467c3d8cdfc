import java.io.File;
import java.io.IOException;
import java.lang.reflect.Method;
import java.lang.reflect.Modifier;
import java.nio.file.Files;
import java.nio.file.Path;
import java.util.regex.Matcher;
import java.util.regex.Pattern;

/** What README.md tells of the class holds: each call has its row, and each run told answers as it says. */
public final class ReadmeTest {
    private static final Pattern CALL = Pattern.compile("grid\\.(\\w+)\\(([^)]*)\\);(?:\\s*// (-?\\d+)\\b)?");

    public static void main(String[] args) throws IOException, ReflectiveOperationException {
        String readme = Files.readString(Path.of("README.md"));
        everyCallHasItsRow(readme);
        everyRunAnswersSo(readme);
        everyTestIsNamed(readme);
        Check.due("README.md names the script", readme.contains("\n    bash .ci/run\n"), true);
        Check.end();
    }

    private static void everyCallHasItsRow(String readme) {
        for (Method method : Gridpeer.class.getDeclaredMethods()) {
            if (!Modifier.isPublic(method.getModifiers())) {
                continue;
            }
            Matcher row = Pattern.compile("(?m)^\\| `" + method.getName() + "\\(([^)]*)\\)` \\|(.*)\\|$").matcher(readme);
            boolean found = row.find();
            Check.due("a row for " + method.getName(), found, true);
            if (found) {
                Check.due("parameters in the row of " + method.getName(), listed(row.group(1)).length,
                        method.getParameterCount());
                String refuses = row.group(2).substring(row.group(2).lastIndexOf('|') + 1);
                Check.due("exceptions in the row of " + method.getName(), shortNames(refuses).equals(thrownBy(method)),
                        true);
            }
        }
    }

    private static String[] listed(String arguments) {
        return arguments.isBlank() ? new String[0] : arguments.split(", ");
    }

    private static String shortNames(String refuses) {
        StringBuilder names = new StringBuilder();
        Matcher name = Pattern.compile("(Index|Argument|State):").matcher(refuses);
        while (name.find()) {
            names.append(name.group());
        }
        return names.toString();
    }

    private static String thrownBy(Method method) {
        StringBuilder names = new StringBuilder();
        for (Class<?> kind : method.getExceptionTypes()) {
            String name = kind.getSimpleName();
            names.append(name.startsWith("Index") ? "Index:" : name.startsWith("IllegalA") ? "Argument:" : "State:");
        }
        return names.toString();
    }

    private static void everyRunAnswersSo(String readme) throws ReflectiveOperationException {
        int runs = 0;
        int answers = 0;
        Matcher block = Pattern.compile("(?s)```java\n(.*?)```").matcher(readme);
        while (block.find()) {
            Gridpeer grid = new Gridpeer();
            runs++;
            for (String line : block.group(1).split("\n")) {
                Matcher call = CALL.matcher(line);
                if (call.find()) {
                    Object got = called(grid, call.group(1), listed(call.group(2)));
                    if (call.group(3) != null) {
                        Check.due("README.md: " + line, (Integer) got, Integer.parseInt(call.group(3)));
                        answers++;
                    }
                }
            }
        }
        Check.due("README.md tells runs with answers", runs >= 1 && answers >= runs, true);
    }

    private static Object called(Gridpeer grid, String name, String[] arguments) throws ReflectiveOperationException {
        Class<?>[] types = new Class<?>[arguments.length];
        Object[] values = new Object[arguments.length];
        for (int argument = 0; argument < arguments.length; argument++) {
            types[argument] = int.class;
            String text = arguments[argument];
            values[argument] = text.startsWith("Gridpeer.")
                    ? Gridpeer.class.getField(text.substring("Gridpeer.".length())).getInt(null)
                    : Integer.parseInt(text);
        }
        return Gridpeer.class.getMethod(name, types).invoke(grid, values);
    }

    private static void everyTestIsNamed(String readme) {
        String[] files = new File("src/test/java").list();
        Check.due("the tests are found", files != null && files.length > 0, true);
        for (String file : files == null ? new String[0] : files) {
            String name = file.replace(".java", "");
            Check.due("README.md names " + name, readme.contains("`" + name + "`"), true);
        }
    }
}
