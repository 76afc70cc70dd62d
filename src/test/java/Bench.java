import java.util.ArrayList;
import java.util.List;
import java.util.NoSuchElementException;
import java.util.function.Supplier;

/** Where answers are compared, each under the sentence of the document that asks for it. */
final class Bench {
    static final Class<? extends RuntimeException> ARGUMENT = IllegalArgumentException.class;
    static final Class<? extends RuntimeException> STATE = IllegalStateException.class;
    static final Class<? extends RuntimeException> ARITHMETIC = ArithmeticException.class;
    static final Class<? extends RuntimeException> NOT_FOUND = NoSuchElementException.class;

    private static final List<Sentence> sentences = new ArrayList<>();
    private static String about = "";
    private static int compared = 0;
    private static int wrong = 0;

    private Bench() {
    }

    /** A call on a desk. */
    interface Call {
        int on(ClauseDesk desk);
    }

    /** Some words of the document, and the heading under which they stand. */
    static final class Sentence {
        final String heading;
        final String words;

        Sentence(String heading, String words) {
            this.heading = heading;
            this.words = words;
        }
    }

    /** Runs the test that holds the program to a sentence; one that throws does not stop the others. */
    static void holds(String heading, String words, Runnable test) {
        sentences.add(new Sentence(heading, words));
        about = heading + ", \"" + words + "\": ";
        int before = compared;
        try {
            test.run();
        } catch (RuntimeException e) {
            complain("the test ended with " + e);
        }
        if (compared == before) {
            complain("nothing was compared");
        }
        about = "";
    }

    static List<Sentence> sentences() {
        return sentences;
    }

    static void complain(String text) {
        wrong++;
        System.out.println(about + text);
    }

    static void due(String what, int got, int want) {
        due(what, String.valueOf(got), String.valueOf(want));
    }

    static void due(String what, String got, String want) {
        compared++;
        if (!got.equals(want)) {
            complain(what + " answered " + got + ", due is " + want);
        }
    }

    /** The call throws this and nothing else, and a desk on which it was made shows nothing of it. */
    static void refused(String what, Supplier<ClauseDesk> made, Call call, Class<? extends RuntimeException> want) {
        for (int part = 0; part < Sight.PARTS; part++) {
            ClauseDesk tried = made.get();
            due(what, outcome(tried, call), want.getSimpleName());
            if (!Sight.part(tried, part).equals(Sight.part(made.get(), part))) {
                complain(what + " was refused but changed something");
            }
        }
    }

    /** What a call answers, or the name of what it throws. */
    static String outcome(ClauseDesk desk, Call call) {
        try {
            return String.valueOf(call.on(desk));
        } catch (RuntimeException e) {
            return e.getClass().getSimpleName();
        }
    }

    static void finish() {
        if (wrong != 0) {
            System.out.println(wrong + " answers are not as due");
            System.exit(1);
        }
    }
}
