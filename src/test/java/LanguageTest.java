import java.io.IOException;
import java.lang.reflect.Constructor;
import java.lang.reflect.Field;
import java.lang.reflect.Method;
import java.lang.reflect.Modifier;
import java.nio.file.Files;
import java.nio.file.Path;
import java.util.ArrayList;
import java.util.HashSet;
import java.util.List;
import java.util.Set;
import java.util.regex.Matcher;
import java.util.regex.Pattern;

/** What can be seen of LANGUAGE.md's rules in the program's text and in its classes. */
public final class LanguageTest {
    private static final Path WHERE = Path.of("src/main/java/ClauseDesk.java");
    private static final int MOST_LINES = 60;
    private static final int MOST_PARAMETERS = 7;
    private static final int MOST_CLASSES = 12;
    private static final int MOST_FIELDS = 20;
    /** Rules 2, 4, 6, 7 and 13: no lambdas, no clock, no file, nothing that is caught and passed on. */
    private static final String[] FORBIDDEN = {"->", "::", "\\bfinally\\b", "\\bsynchronized\\b", "\\bassert\\b",
        "\\bvar\\b", "Exact\\b", "getMessage", "hashCode", "toString", "\\bstatic \\{", "System\\.(?!arraycopy)",
        "\\bThread", "\\bRandom", "\\bnull\\b", "\\bcatch\\b", "\\bdouble\\b", "\\bfloat\\b", "\\bprotected\\b"};

    private LanguageTest() {
    }

    public static void main(String[] args) throws IOException {
        List<String> lines = Files.readAllLines(WHERE);
        String code = String.join("\n", lines).replaceAll("(?s)/\\*.*?\\*/", "").replaceAll("//[^\n]*", "");
        for (String words : FORBIDDEN) {
            Matcher found = Pattern.compile(words).matcher(code);
            Bench.due("the text", found.find() ? "has " + found.group() : "is clean", "is clean");
        }
        Bench.due("the imports", imports(lines).toString(), "[import java.util.NoSuchElementException;]");
        lengths(lines);
        List<Class<?>> classes = new ArrayList<>(List.of(ClauseDesk.class.getDeclaredClasses()));
        for (Class<?> inside : classes) {
            Bench.due("class " + inside.getSimpleName(), Modifier.toString(inside.getModifiers()),
                    "private static final");
        }
        classes.add(ClauseDesk.class);
        Bench.due("classes", classes.size() <= MOST_CLASSES ? "few" : "many", "few");
        for (Class<?> one : classes) {
            fields(one);
            parameters(one);
        }
        names();
        Bench.finish();
    }

    private static List<String> imports(List<String> lines) {
        List<String> imports = new ArrayList<>();
        for (String line : lines) {
            if (line.startsWith("import ") || line.startsWith("package ")) {
                imports.add(line);
            }
        }
        return imports;
    }

    /** Rule 11: a method begins with a line that ends in { behind a ) and ends at the same depth. */
    private static void lengths(List<String> lines) {
        for (int i = 0; i < lines.size(); i++) {
            String line = lines.get(i);
            String indent = line.substring(0, line.length() - line.stripLeading().length());
            boolean isBlock = line.endsWith("{") && (indent.length() == 4 || indent.length() == 8);
            int end = i;
            while (isBlock && line.contains("(") && !lines.get(end).equals(indent + "}")) {
                end++;
            }
            Bench.due(line.strip(), end - i < MOST_LINES ? "short" : "long", "short");
        }
    }

    /** Rules 5 and 11: whatever is static is final and a number, and a class has few fields beside. */
    private static void fields(Class<?> one) {
        int own = 0;
        for (Field field : one.getDeclaredFields()) {
            if (!Modifier.isStatic(field.getModifiers())) {
                own++;
            } else if (!field.isSynthetic()) {
                Bench.due(field.toString(), Modifier.isFinal(field.getModifiers()) ? "final" : "changes", "final");
                Bench.due(field.toString(), field.getType().isPrimitive() ? "a number" : "an object", "a number");
            }
        }
        Bench.due("fields of " + one.getSimpleName(), own <= MOST_FIELDS ? "few" : "many", "few");
    }

    private static void parameters(Class<?> one) {
        for (Method method : one.getDeclaredMethods()) {
            Bench.due(method.toString(), method.getParameterCount() <= MOST_PARAMETERS ? "few" : "many", "few");
        }
        for (Constructor<?> constructor : one.getDeclaredConstructors()) {
            Bench.due(constructor.toString(), constructor.getParameterCount() == 0 ? "none" : "some", "none");
        }
    }

    /** Rule 1: no private method bears the name of a public one. */
    private static void names() {
        Set<String> shown = new HashSet<>();
        for (Method method : ClauseDesk.class.getMethods()) {
            shown.add(method.getName());
        }
        for (Method method : ClauseDesk.class.getDeclaredMethods()) {
            if (Modifier.isPrivate(method.getModifiers())) {
                Bench.due(method.toString(), shown.contains(method.getName()) ? "taken" : "free", "free");
            }
        }
    }
}
