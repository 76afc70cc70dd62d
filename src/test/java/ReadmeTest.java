import java.io.IOException;
import java.lang.reflect.InvocationTargetException;
import java.lang.reflect.Method;
import java.nio.file.Files;
import java.nio.file.Path;
import java.util.HashSet;
import java.util.Set;
import java.util.regex.Matcher;
import java.util.regex.Pattern;

/** README.md tells the truth: its examples are run, and its table names every call. */
public final class ReadmeTest {
    private static final Path WHERE = Path.of("README.md");
    private static final String NEW = "ClauseDesk desk = new ClauseDesk();";
    private static final Pattern CALL = Pattern.compile("desk\\.(\\w+)\\(([^)]*)\\);\\s*// (?:(-?\\d+):)?.*");
    private static final Pattern ROW = Pattern.compile("\\| `(\\w+)\\(.*");

    private ReadmeTest() {
    }

    public static void main(String[] args) throws IOException {
        ClauseDesk desk = null;
        Set<String> called = new HashSet<>();
        Set<String> listed = new HashSet<>();
        for (String line : Files.readAllLines(WHERE)) {
            Matcher call = CALL.matcher(line);
            Matcher row = ROW.matcher(line);
            if (line.equals(NEW)) {
                desk = new ClauseDesk();
            } else if (call.matches()) {
                called.add(call.group(1));
                run(desk, line, call);
            } else if (line.startsWith("desk.")) {
                Bench.complain("not to be read: " + line);
            } else if (row.matches()) {
                listed.add(row.group(1));
            }
        }
        for (Method method : ClauseDesk.class.getMethods()) {
            if (method.getDeclaringClass() == ClauseDesk.class) {
                String name = method.getName();
                Bench.due("an example of " + name, called.contains(name) ? "there" : "missing", "there");
                Bench.due("a row for " + name, listed.contains(name) ? "there" : "missing", "there");
            }
        }
        Bench.finish();
    }

    private static void run(ClauseDesk desk, String line, Matcher call) {
        String[] texts = call.group(2).isEmpty() ? new String[0] : call.group(2).split(", ");
        Object[] arguments = new Object[texts.length];
        Class<?>[] types = new Class<?>[texts.length];
        for (int i = 0; i < texts.length; i++) {
            arguments[i] = Integer.valueOf(texts[i]);
            types[i] = int.class;
        }
        try {
            Object answer = ClauseDesk.class.getMethod(call.group(1), types).invoke(desk, arguments);
            // What answers nothing has no number in its comment.
            Bench.due(line, String.valueOf(answer), String.valueOf(call.group(3)));
        } catch (NoSuchMethodException | IllegalAccessException | InvocationTargetException e) {
            Bench.complain(line + " ended with " + e);
        }
    }
}
