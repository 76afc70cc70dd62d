import java.lang.reflect.Field;
import java.lang.reflect.Method;
import java.lang.reflect.Modifier;
import java.util.Arrays;
import java.util.Set;
import java.util.TreeSet;

/** "The public face": the class has the members of the document, and shows no others. */
public final class FaceTest {
    private static final String[] METHODS = {"int relation(int)", "int mark(int, int, int, int)",
        "int clause(int, int, int)", "int atom(int, int, int)", "int bound(int, int, int)", "int round()",
        "int refine()", "int verify(int)", "void start()", "int check()", "int follows(int, int, int)",
        "int state(int)", "int shown(int, int, int)", "int cube(int, int, int)", "int node(int, int)"};

    private FaceTest() {
    }

    public static void main(String[] args) throws NoSuchFieldException {
        int modifiers = ClauseDesk.class.getModifiers();
        Bench.due("public", Modifier.isPublic(modifiers) ? 1 : 0, 1);
        Bench.due("final", Modifier.isFinal(modifiers) ? 1 : 0, 1);
        Bench.due("constructors", Arrays.toString(ClauseDesk.class.getDeclaredConstructors()),
                "[public ClauseDesk()]");
        Set<String> due = new TreeSet<>(Arrays.asList(METHODS));
        Bench.due("methods that are not private", methods().toString(), due.toString());
        Bench.due("fields that are not private", fields().toString(), "[NONE]");
        Field none = ClauseDesk.class.getDeclaredField("NONE");
        Bench.due("NONE", Modifier.toString(none.getModifiers()) + " " + none.getType(), "public static final int");
        Bench.due("NONE", ClauseDesk.NONE, -1);
        Bench.finish();
    }

    private static Set<String> methods() {
        Set<String> seen = new TreeSet<>();
        for (Method method : ClauseDesk.class.getDeclaredMethods()) {
            if (!Modifier.isPrivate(method.getModifiers()) && !method.isSynthetic()) {
                String parameters = Arrays.toString(method.getParameterTypes()).replace("[", "(").replace("]", ")");
                seen.add(method.getReturnType() + " " + method.getName() + parameters);
            }
        }
        return seen;
    }

    private static Set<String> fields() {
        Set<String> seen = new TreeSet<>();
        for (Field field : ClauseDesk.class.getDeclaredFields()) {
            if (!Modifier.isPrivate(field.getModifiers()) && !field.isSynthetic()) {
                seen.add(field.getName());
            }
        }
        return seen;
    }
}
