import java.lang.reflect.Field;
import java.lang.reflect.Method;
import java.lang.reflect.Modifier;
import java.util.ArrayList;
import java.util.Arrays;
import java.util.List;
import java.util.StringJoiner;
import java.util.TreeSet;

/** "The public face": the class has the members of the document, as it writes them, and shows no others. */
public final class FaceTest {
    private static final String IMPORT = "import java.util.NoSuchElementException;";
    private static final String CONSTANT = "public static final int NONE = -1;";
    private static final String CONSTRUCTOR = "public ClauseDesk();";
    private static final String BOTH = " throws IllegalArgumentException, IllegalStateException";
    private static final String[] METHODS = {
        "int relation(int places)" + BOTH,
        "int mark(int r, int u, int v, int c)" + BOTH,
        "int clause(int r, int x, int y)" + BOTH,
        "int atom(int r, int x, int y)" + BOTH,
        "int bound(int u, int v, int c)" + BOTH,
        "int round() throws IllegalStateException",
        "int refine() throws IllegalStateException",
        "int verify(int fuel) throws IllegalArgumentException",
        "void start()",
        "int check()",
        "int follows(int k, int u, int v) throws IllegalArgumentException, ArithmeticException, "
            + "NoSuchElementException",
        "int state(int what)",
        "int shown(int r, int k, int what) throws IllegalArgumentException, NoSuchElementException",
        "int cube(int r, int cube, int what) throws IllegalArgumentException",
        "int node(int k, int what) throws IllegalArgumentException, NoSuchElementException",
    };

    private FaceTest() {
    }

    public static void main(String[] args) throws NoSuchFieldException {
        Bench.due("the class", Modifier.toString(ClauseDesk.class.getModifiers()), "public final");
        Bench.due("what it extends", ClauseDesk.class.getSuperclass() + " "
                + Arrays.toString(ClauseDesk.class.getInterfaces()), "class java.lang.Object []");
        Bench.due("constructors", Arrays.toString(ClauseDesk.class.getDeclaredConstructors()),
                "[public ClauseDesk()]");
        Bench.due("methods that are not private", methods().toString(), dueMethods().toString());
        Bench.due("fields that are not private", fields().toString(), "[public static final int NONE]");
        Bench.due("NONE", ClauseDesk.NONE, -1);
        compareWithDocument();
        Bench.finish();
    }

    private static TreeSet<String> methods() {
        TreeSet<String> seen = new TreeSet<>();
        for (Method method : ClauseDesk.class.getDeclaredMethods()) {
            if (!Modifier.isPrivate(method.getModifiers()) && !method.isSynthetic()) {
                seen.add(Modifier.toString(method.getModifiers()) + " " + method.getReturnType() + " "
                        + method.getName() + "(" + names(method.getParameterTypes()) + ")"
                        + thrown(method.getExceptionTypes()));
            }
        }
        return seen;
    }

    private static String names(Class<?>[] types) {
        StringJoiner names = new StringJoiner(", ");
        for (Class<?> type : types) {
            names.add(type.getSimpleName());
        }
        return names.toString();
    }

    private static String thrown(Class<?>[] types) {
        return types.length == 0 ? "" : " throws " + names(types);
    }

    /** As a class file tells them: without the names of the parameters. */
    private static TreeSet<String> dueMethods() {
        TreeSet<String> due = new TreeSet<>();
        for (String method : METHODS) {
            due.add("public " + method.replaceAll("int \\w+(?=[,)])", "int"));
        }
        return due;
    }

    private static List<String> fields() {
        List<String> seen = new ArrayList<>();
        for (Field field : ClauseDesk.class.getDeclaredFields()) {
            if (!Modifier.isPrivate(field.getModifiers()) && !field.isSynthetic()) {
                seen.add(Modifier.toString(field.getModifiers()) + " " + field.getType() + " " + field.getName());
            }
        }
        return seen;
    }

    /** The face at the head of the document, and the one that each promise begins with, are these. */
    private static void compareWithDocument() {
        if (!Document.isHere()) {
            return;
        }
        List<String> face = new ArrayList<>(List.of(IMPORT, CONSTANT, CONSTRUCTOR));
        List<String> promised = new ArrayList<>(List.of("ClauseDesk()"));
        for (String method : METHODS) {
            face.add("public " + method + ";");
            promised.add(method);
        }
        Bench.due("the document's public face", String.join("\n", Document.face()), String.join("\n", face));
        Bench.due("the promises' faces", String.join("\n", Document.promised()), String.join("\n", promised));
    }
}
