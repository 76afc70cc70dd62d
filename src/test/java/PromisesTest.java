import java.lang.reflect.Constructor;
import java.lang.reflect.Field;
import java.lang.reflect.Method;
import java.lang.reflect.Modifier;
import java.util.Arrays;
import java.util.NoSuchElementException;
import java.util.function.Supplier;

/** For each promise of the document: ordinary inputs, the edges that it names, and wrong inputs. */
public final class PromisesTest {
    private static final Class<? extends RuntimeException> ARGUMENT = IllegalArgumentException.class;
    private static final Class<? extends RuntimeException> STATE = IllegalStateException.class;
    private static final Class<? extends RuntimeException> ARITHMETIC = ArithmeticException.class;
    private static final Class<? extends RuntimeException> NOT_FOUND = NoSuchElementException.class;

    private static final int SAFE = 1;
    private static final int UNSAFE = 2;
    private static final int UNKNOWN = 3;

    private static int wrong = 0;

    private PromisesTest() {
    }

    /** A call on a desk. */
    private interface Call {
        int on(ClauseDesk desk);
    }

    public static void main(String[] args) {
        theFace();
        promise1NewObject();
        promise2Relation();
        promise3Mark();
        promise4Clause();
        promise5Atom();
        promise6Bound();
        promise7Round();
        promise7Reasons();
        promise7Alarm();
        promise8Refine();
        promise8Pairs();
        promise8LimitsOfMarks();
        promise8TooManyNodes();
        promise9Verify();
        promise10Start();
        promise11Check();
        promise12Follows();
        promise13State();
        promise14Shown();
        promise15Cube();
        promise16Node();
        makingIsAFreshStart();
        if (wrong != 0) {
            System.out.println(wrong + " answers are not as due");
            System.exit(1);
        }
    }

    private static void due(String what, int got, int want) {
        if (got != want) {
            wrong++;
            System.out.println(what + " answered " + got + ", due is " + want);
        }
    }

    /** The call throws this and nothing else, and a desk on which it was made shows nothing of it. */
    private static void refused(String what, Supplier<ClauseDesk> made, Call call,
            Class<? extends RuntimeException> want) {
        ClauseDesk tried = made.get();
        String got;
        try {
            got = String.valueOf(call.on(tried));
        } catch (RuntimeException e) {
            got = e.getClass().getSimpleName();
        }
        if (!got.equals(want.getSimpleName())) {
            wrong++;
            System.out.println(what + " answered " + got + ", due is " + want.getSimpleName());
        }
        if (!picture(tried).equals(picture(made.get()))) {
            wrong++;
            System.out.println(what + " was refused but changed something");
        }
    }

    /** What can be seen of a desk, and then what it does when one goes on with it. */
    private static String picture(ClauseDesk desk) {
        StringBuilder seen = new StringBuilder();
        for (int what = 0; what <= 6; what++) {
            see(seen, desk, "state", what, 0, 0);
        }
        for (int r = 0; r < desk.state(0); r++) {
            for (int k = 0; k < 12; k++) {
                see(seen, desk, "shown", r, k / 3, k % 3);
            }
            for (int cube = 0; cube < 16; cube++) {
                see(seen, desk, "cube", r, cube, 0);
            }
        }
        for (int k = 0; k < desk.state(1); k++) {
            see(seen, desk, "follows", k, 0, 5);
            see(seen, desk, "follows", k, 5, 0);
        }
        for (int k = 0; k < Math.min(40, desk.state(5)); k++) {
            see(seen, desk, "node", k, 0, 0);
        }
        see(seen, desk, "check", 0, 0, 0);
        see(seen, desk, "verify", 2, 0, 0);
        see(seen, desk, "state", 3, 0, 0);
        for (String maker : new String[] {"atom", "bound", "mark", "clause", "relation"}) {
            see(seen, desk, maker, 0, 1, 2);
        }
        return seen.toString();
    }

    private static void see(StringBuilder seen, ClauseDesk desk, String name, int a, int b, int c) {
        seen.append(name).append(' ');
        try {
            seen.append(look(desk, name, a, b, c));
        } catch (RuntimeException e) {
            seen.append(e.getClass().getSimpleName());
        }
        seen.append('\n');
    }

    private static int look(ClauseDesk desk, String name, int a, int b, int c) {
        switch (name) {
            case "state": return desk.state(a);
            case "shown": return desk.shown(a, b, c);
            case "cube": return desk.cube(a, b, c);
            case "follows": return desk.follows(a, b, c);
            case "node": return desk.node(a, b);
            case "check": return desk.check();
            case "verify": return desk.verify(a);
            case "atom": return desk.atom(a, b, c);
            case "bound": return desk.bound(a, b, c);
            case "mark": return desk.mark(a, 0, 2, -777);
            case "clause": return desk.clause(a, b, c);
            default: return desk.relation(1);
        }
    }

    private static void equation(ClauseDesk desk, int u, int v, int c) {
        desk.bound(u, v, c);
        desk.bound(v, u, -c);
    }

    /** p(0); p(x + 1) if p(x) and x <= most; it must not be that p(x) and x >= bad. */
    private static ClauseDesk counter(int most, int bad) {
        ClauseDesk desk = new ClauseDesk();
        desk.relation(1);
        desk.clause(0, 0, 0);
        equation(desk, 0, 5, 0);
        desk.clause(0, 1, 0);
        desk.atom(0, 0, 0);
        equation(desk, 1, 0, 1);
        desk.bound(0, 5, most);
        desk.clause(-1, 0, 0);
        desk.atom(0, 0, 0);
        desk.bound(5, 0, -bad);
        return desk;
    }

    private static ClauseDesk counterWithAlarm() {
        ClauseDesk desk = counter(9, 11);
        desk.round();
        desk.round();
        return desk;
    }

    private static ClauseDesk closedCounter() {
        ClauseDesk desk = counter(9, 11);
        desk.mark(0, 0, 2, 10);
        desk.verify(100);
        return desk;
    }

    /**
     * Marks x <= 0 .. x <= 3; p(0); p(x + 1) if p(x) and p(x): the cube of x >= 4 has a tree of 31
     * nodes, that of x = 2 one of 7. q(x) if p(x) and x = 2: 8 nodes. s(x) if q(x): 9 nodes.
     */
    private static ClauseDesk ladder() {
        ClauseDesk desk = new ClauseDesk();
        desk.relation(1);
        desk.relation(1);
        desk.relation(1);
        for (int c = 0; c < 4; c++) {
            desk.mark(0, 0, 2, c);
        }
        desk.clause(0, 0, 0);
        equation(desk, 0, 5, 0);
        desk.clause(0, 1, 0);
        desk.atom(0, 0, 0);
        desk.atom(0, 0, 0);
        equation(desk, 1, 0, 1);
        desk.clause(1, 0, 0);
        desk.atom(0, 0, 0);
        equation(desk, 0, 5, 2);
        desk.clause(2, 0, 0);
        desk.atom(1, 0, 0);
        return desk;
    }

    /** 1 + 31 + 8 nodes with q (1), 1 + 31 + 9 with s (2). */
    private static ClauseDesk ladderWithAlarm(int relation) {
        ClauseDesk desk = ladder();
        desk.clause(-1, 0, 0);
        desk.atom(0, 0, 0);
        desk.atom(relation, 1, 0);
        desk.bound(5, 0, -4);
        desk.verify(6);
        return desk;
    }

    private static void theFace() {
        due("public constructors", ClauseDesk.class.getConstructors().length, 1);
        due("final", Modifier.isFinal(ClauseDesk.class.getModifiers()) ? 1 : 0, 1);
        int methods = 0;
        for (Method method : ClauseDesk.class.getDeclaredMethods()) {
            methods += Modifier.isPrivate(method.getModifiers()) ? 0 : 1;
        }
        due("methods that are not private", methods, 15);
        for (Field field : ClauseDesk.class.getDeclaredFields()) {
            boolean isNone = field.getName().equals("NONE");
            due("field " + field.getName() + " is private", Modifier.isPrivate(field.getModifiers()) ? 1 : 0,
                    isNone ? 0 : 1);
        }
        for (Constructor<?> constructor : ClauseDesk.class.getDeclaredConstructors()) {
            due("constructor's parameters", constructor.getParameterCount(), 0);
        }
        due("NONE", ClauseDesk.NONE, -1);
    }

    private static void promise1NewObject() {
        ClauseDesk desk = new ClauseDesk();
        int[] all = {0, 0, 0, 0, -1, 0, 0};
        for (int what = 0; what < all.length; what++) {
            due("new: state(" + what + ")", desk.state(what), all[what]);
        }
        due("new: check", desk.check(), -1);
        due("new: verify(0)", desk.verify(0), 0);
        due("new: round", desk.round(), 0);
        due("new: nothing closes at once", desk.state(2), SAFE);
        due("new: after one round", desk.state(3), 1);
    }

    private static ClauseDesk fourRelations() {
        ClauseDesk desk = new ClauseDesk();
        for (int r = 0; r < 4; r++) {
            due("relation " + r, desk.relation(1 + r % 2), r);
        }
        return desk;
    }

    private static void promise2Relation() {
        due("four relations", fourRelations().state(0), 4);
        for (int places : new int[] {0, 3, -1, Integer.MAX_VALUE, Integer.MIN_VALUE}) {
            refused("relation(" + places + ")", ClauseDesk::new, d -> d.relation(places), ARGUMENT);
            refused("fifth relation(" + places + ")", PromisesTest::fourRelations, d -> d.relation(places), ARGUMENT);
        }
        refused("fifth relation", PromisesTest::fourRelations, d -> d.relation(1), STATE);
        refused("fifth relation", PromisesTest::fourRelations, d -> d.relation(2), STATE);
    }

    private static ClauseDesk fourMarks() {
        ClauseDesk desk = new ClauseDesk();
        desk.relation(2);
        desk.relation(1);
        due("mark 0", desk.mark(0, 0, 1, 1000), 0);
        due("mark 1", desk.mark(0, 1, 0, -1000), 1);
        due("mark 2", desk.mark(0, 0, 2, 5), 2);
        due("mark 3", desk.mark(0, 2, 1, 5), 3);
        return desk;
    }

    private static void promise3Mark() {
        fourMarks();
        ClauseDesk desk = new ClauseDesk();
        desk.relation(1);
        due("a mark", desk.mark(0, 0, 2, 3), 0);
        due("its opposite is another mark", desk.mark(0, 2, 0, -4), 1);
        due("the same with another c", desk.mark(0, 0, 2, 4), 2);
        Supplier<ClauseDesk> one = () -> {
            ClauseDesk d = counter(9, 11);
            d.relation(2);
            d.mark(0, 0, 2, 3);
            d.round();
            return d;
        };
        int[][] bad = {{-1, 0, 2, 0}, {2, 0, 2, 0}, {0, 0, 0, 0}, {0, 2, 2, 0}, {0, 1, 2, 0}, {0, 0, 1, 0},
            {0, 2, 1, 0}, {0, 3, 2, 0}, {0, 0, 3, 0}, {0, -1, 2, 0}, {0, 0, -1, 0}, {0, 0, 2, 1001},
            {0, 0, 2, -1001}, {0, 0, 2, Integer.MIN_VALUE}, {1, 1, 1, 0}, {1, 3, 0, 0}, {1, 0, 1, 1001}};
        for (int[] a : bad) {
            refused("mark" + Arrays.toString(a), one, d -> d.mark(a[0], a[1], a[2], a[3]), ARGUMENT);
        }
        refused("a mark twice", one, d -> d.mark(0, 0, 2, 3), STATE);
        refused("a fifth mark", PromisesTest::fourMarks, d -> d.mark(0, 0, 2, 6), STATE);
        refused("a fifth mark, there already", PromisesTest::fourMarks, d -> d.mark(0, 0, 2, 5), STATE);
        refused("a fifth, bad mark", PromisesTest::fourMarks, d -> d.mark(0, 0, 0, 6), ARGUMENT);
        due("another relation has its own four", fourMarks().mark(1, 0, 2, 5), 0);
    }

    private static ClauseDesk twelveClauses() {
        ClauseDesk desk = new ClauseDesk();
        desk.relation(1);
        desk.relation(2);
        for (int k = 0; k < 12; k++) {
            due("clause " + k, desk.clause(k % 3 - 1, k % 5, 4 - k % 5), k);
        }
        return desk;
    }

    private static void promise4Clause() {
        due("twelve clauses", twelveClauses().state(1), 12);
        ClauseDesk desk = new ClauseDesk();
        due("FALSE needs no relation", desk.clause(-1, 99, -99), 0);
        desk.relation(1);
        due("y counts for nothing", desk.clause(0, 4, 77), 1);
        desk.relation(2);
        due("one variable twice", desk.clause(1, 4, 4), 2);
        Supplier<ClauseDesk> two = () -> {
            ClauseDesk d = counterWithAlarm();
            d.relation(2);
            d.round();
            return d;
        };
        int[][] bad = {{-2, 0, 0}, {2, 0, 0}, {0, -1, 0}, {0, 5, 0}, {1, 0, 5}, {1, 0, -1}, {1, 5, 0}, {1, -1, 4}};
        for (int[] a : bad) {
            refused("clause" + Arrays.toString(a), two, d -> d.clause(a[0], a[1], a[2]), ARGUMENT);
            refused("13th clause" + Arrays.toString(a), PromisesTest::twelveClauses,
                    d -> d.clause(a[0], a[1], a[2]), ARGUMENT);
        }
        refused("13th clause", PromisesTest::twelveClauses, d -> d.clause(0, 0, 0), STATE);
        refused("13th clause, FALSE", PromisesTest::twelveClauses, d -> d.clause(-1, 0, 0), STATE);
    }

    private static ClauseDesk oneOfEach() {
        ClauseDesk desk = new ClauseDesk();
        desk.relation(1);
        desk.relation(2);
        return desk;
    }

    private static ClauseDesk twoAtoms() {
        ClauseDesk desk = oneOfEach();
        desk.clause(1, 0, 1);
        due("first atom", desk.atom(0, 4, 9), 0);
        due("second atom", desk.atom(1, 0, 0), 1);
        return desk;
    }

    private static void promise5Atom() {
        ClauseDesk desk = twoAtoms();
        desk.clause(-1, 0, 0);
        due("the latest clause gets it", desk.atom(1, 4, 3), 0);
        int[][] bad = {{-1, 0, 0}, {-2, 0, 0}, {2, 0, 0}, {0, 5, 0}, {0, -1, 0}, {1, 0, 5}, {1, 0, -1}, {1, 5, 0}};
        for (int[] a : bad) {
            refused("atom" + Arrays.toString(a), PromisesTest::counterWithAlarmAndPair,
                    d -> d.atom(a[0], a[1], a[2]), ARGUMENT);
            refused("atom without clause" + Arrays.toString(a), PromisesTest::oneOfEach,
                    d -> d.atom(a[0], a[1], a[2]), ARGUMENT);
            refused("third atom" + Arrays.toString(a), PromisesTest::twoAtoms,
                    d -> d.atom(a[0], a[1], a[2]), ARGUMENT);
        }
        refused("atom without clause", PromisesTest::oneOfEach, d -> d.atom(0, 0, 0), STATE);
        refused("third atom", PromisesTest::twoAtoms, d -> d.atom(0, 0, 0), STATE);
    }

    private static ClauseDesk counterWithAlarmAndPair() {
        ClauseDesk desk = counter(9, 11);
        desk.relation(2);
        desk.verify(2);
        return desk;
    }

    private static ClauseDesk eightBounds() {
        ClauseDesk desk = new ClauseDesk();
        desk.clause(-1, 0, 0);
        for (int i = 1; i <= 8; i++) {
            due("bound " + i, desk.bound(0, 5, i % 2 == 0 ? 1000 : -1000), i);
        }
        return desk;
    }

    private static void promise6Bound() {
        ClauseDesk desk = eightBounds();
        due("bounds hold", desk.follows(0, 0, 5), -1000);
        desk.clause(-1, 0, 0);
        due("the latest clause gets it", desk.bound(4, 3, 7), 1);
        due("which follows", desk.follows(1, 4, 3), 7);
        int[][] bad = {{0, 0, 0}, {5, 5, 0}, {6, 0, 0}, {0, 6, 0}, {-1, 0, 0}, {0, -1, 0}, {0, 1, 1001}, {0, 1, -1001},
            {0, 1, Integer.MAX_VALUE}, {0, 1, Integer.MIN_VALUE}};
        for (int[] a : bad) {
            refused("bound" + Arrays.toString(a), PromisesTest::counterWithAlarm,
                    d -> d.bound(a[0], a[1], a[2]), ARGUMENT);
            refused("bound without clause" + Arrays.toString(a), PromisesTest::oneOfEach,
                    d -> d.bound(a[0], a[1], a[2]), ARGUMENT);
            refused("ninth bound" + Arrays.toString(a), PromisesTest::eightBounds,
                    d -> d.bound(a[0], a[1], a[2]), ARGUMENT);
        }
        refused("bound without clause", PromisesTest::oneOfEach, d -> d.bound(0, 1, 0), STATE);
        refused("ninth bound", PromisesTest::eightBounds, d -> d.bound(0, 1, 0), STATE);
    }

    private static void promise7Round() {
        ClauseDesk desk = ladder();
        int[] reached = {1, 1, 1, 2, 2, 0};
        for (int n = 0; n < reached.length; n++) {
            due("ladder, round " + (n + 1), desk.round(), reached[n]);
            due("ladder, rounds", desk.state(3), n + 1);
            due("ladder, verdict", desk.state(2), n == 5 ? SAFE : 0);
        }
        int[] cubes = {15, 14, 12, 8, 0};
        for (int n = 0; n < cubes.length; n++) {
            due("ladder, height of cube " + cubes[n], desk.cube(0, cubes[n], 0), n + 1);
        }
        due("ladder, q", desk.cube(1, 0, 0), 4);
        due("ladder, s", desk.cube(2, 0, 0), 5);
        refused("round when closed", PromisesTest::closedCounter, ClauseDesk::round, STATE);
        refused("round with an alarm", PromisesTest::counterWithAlarm, ClauseDesk::round, STATE);
        refused("round when unsafe", PromisesTest::unsafeCounter, ClauseDesk::round, STATE);
        refused("round when unknown", () -> refinedAt(ladderWithAlarm(2)), ClauseDesk::round, STATE);
        sameVariableTwice();
        noPremiseOfTheSameRound();
    }

    private static ClauseDesk refinedAt(ClauseDesk desk) {
        desk.refine();
        return desk;
    }

    private static ClauseDesk unsafeCounter() {
        ClauseDesk desk = counter(9, 1);
        due("counter to 1", desk.verify(100), UNSAFE);
        return desk;
    }

    /** p(x, x) lies where the places' difference is 0, and an atom p(x, x) sees no other cubes. */
    private static void sameVariableTwice() {
        ClauseDesk desk = oneOfEach();
        desk.mark(1, 0, 1, -1);
        desk.mark(1, 1, 0, -1);
        desk.clause(1, 2, 2);
        due("p(x, x)", desk.round(), 1);
        due("p(x, x), cube", desk.cube(1, 0, 0), 1);
        desk = oneOfEach();
        desk.mark(1, 0, 1, -1);
        desk.clause(1, 0, 1);
        desk.bound(0, 1, -1);
        desk.clause(0, 3, 0);
        desk.atom(1, 3, 3);
        due("p(x, y), x < y", desk.round(), 1);
        due("then p(z, z) is nothing", desk.round(), 0);
        due("then p(z, z) is nothing", desk.state(2), SAFE);
    }

    /** The second clause's premise comes in the very round in which it could use it. */
    private static void noPremiseOfTheSameRound() {
        ClauseDesk desk = oneOfEach();
        desk.clause(0, 0, 0);
        desk.clause(1, 0, 1);
        desk.atom(0, 0, 0);
        due("first round", desk.round(), 1);
        due("not yet", desk.cube(1, 0, 0), 0);
        due("second round", desk.round(), 1);
        due("height", desk.cube(1, 0, 0), 2);
        due("third round", desk.round(), 0);
    }

    /** The least clause counts, not the one with the least premises, and then the least first premise. */
    private static void promise7Reasons() {
        ClauseDesk desk = new ClauseDesk();
        desk.relation(1);
        desk.relation(1);
        desk.mark(0, 0, 2, 0);
        desk.mark(1, 0, 2, 0);
        desk.clause(0, 0, 0);
        desk.clause(1, 2, 0);
        desk.atom(0, 0, 0);
        desk.atom(0, 1, 0);
        desk.bound(0, 1, -1);
        equation(desk, 2, 0, 0);
        desk.clause(1, 0, 0);
        desk.atom(0, 0, 0);
        due("first round", desk.round(), 2);
        due("second round", desk.round(), 2);
        int[][] dues = {{2, 1, 0, 0}, {2, 1, 1, 0}};
        for (int cube = 0; cube < 2; cube++) {
            for (int what = 0; what < 4; what++) {
                due("reason, cube(1, " + cube + ", " + what + ")", desk.cube(1, cube, what), dues[cube][what]);
            }
        }
        due("no premises", desk.cube(0, 1, 2), -1);
        due("its clause", desk.cube(0, 1, 1), 0);
    }

    private static void promise7Alarm() {
        ClauseDesk desk = new ClauseDesk();
        desk.relation(1);
        desk.clause(0, 0, 0);
        desk.clause(-1, 0, 0);
        desk.bound(0, 1, -1);
        desk.bound(1, 0, 0);
        desk.clause(-1, 0, 0);
        desk.clause(-1, 0, 0);
        due("a round with an alarm reaches nothing", desk.round(), 0);
        due("the least clause that holds together", desk.state(4), 2);
        due("nothing was reached", desk.cube(0, 0, 0), 0);
        due("the round counts", desk.state(3), 1);
        due("no verdict yet", desk.state(2), 0);
        due("the root alone", desk.state(5), 1);
        due("refining it", desk.refine(), 0);
        due("its bounds hold together", desk.state(2), UNSAFE);
        leastPremisesOfTheAlarm();
        firstClauseIsFalse();
    }

    private static void firstClauseIsFalse() {
        ClauseDesk desk = oneOfEach();
        desk.clause(-1, 0, 0);
        desk.atom(0, 0, 0);
        desk.clause(0, 0, 0);
        due("no state yet, no alarm", desk.round(), 1);
        due("no alarm", desk.state(4), -1);
        due("alarm", desk.round(), 0);
        due("clause 0 can be the alarm's", desk.state(4), 0);
        due("and its root's", desk.node(0, 0), 0);
    }

    private static void leastPremisesOfTheAlarm() {
        ClauseDesk desk = new ClauseDesk();
        desk.relation(1);
        desk.mark(0, 0, 2, 0);
        desk.mark(0, 0, 2, 9);
        desk.clause(0, 0, 0);
        desk.clause(-1, 0, 0);
        desk.atom(0, 0, 0);
        desk.atom(0, 1, 0);
        desk.bound(0, 1, -5);
        desk.bound(0, 5, 9);
        desk.round();
        due("cubes 0, 2 and 3", desk.cube(0, 0, 0) + desk.cube(0, 2, 0) + desk.cube(0, 3, 0), 3);
        desk.round();
        due("alarm", desk.state(4), 1);
        due("first premise", desk.node(1, 2), 2);
        due("second premise", desk.node(2, 2), 0);
    }

    private static void promise8Refine() {
        ClauseDesk desk = counterWithAlarm();
        due("refine", desk.refine(), 2);
        int[] shown = {0, 2, 0, 2, 0, 0};
        for (int i = 0; i < 6; i++) {
            due("new mark " + i / 3 + ", " + i % 3, desk.shown(0, i / 3, i % 3), shown[i]);
        }
        int[] all = {1, 3, 0, 0, -1, 0, 1};
        for (int what = 0; what < 7; what++) {
            due("after refining, state(" + what + ")", desk.state(what), all[what]);
        }
        due("no states", desk.cube(0, 3, 0), 0);
        due("a round goes on", desk.round(), 1);
        ClauseDesk unsafe = counter(9, 0);
        unsafe.round();
        unsafe.round();
        due("refine, unsafe", unsafe.refine(), 0);
        due("unsafe", unsafe.state(2), UNSAFE);
        due("the alarm stays", unsafe.state(4), 2);
        due("the tree stays", unsafe.state(5), 2);
        due("not counted", unsafe.state(6), 0);
        refused("refine without alarm", () -> counter(9, 11), ClauseDesk::refine, STATE);
        refused("refine when unsafe", PromisesTest::unsafeCounter, ClauseDesk::refine, STATE);
        refused("refine when closed", PromisesTest::closedCounter, ClauseDesk::refine, STATE);
        refused("refine when unknown", () -> refinedAt(ladderWithAlarm(2)), ClauseDesk::refine, STATE);
    }

    /** p(x, y) with x = y + 3 and x <= 10 against x <= y: the pairs of corners in their order. */
    private static void promise8Pairs() {
        ClauseDesk desk = oneOfEach();
        desk.clause(1, 0, 1);
        equation(desk, 0, 1, 3);
        desk.bound(0, 5, 10);
        desk.clause(-1, 0, 0);
        desk.atom(1, 2, 4);
        desk.bound(2, 4, 0);
        desk.verify(2);
        due("refine", desk.refine(), 4);
        int[][] marks = {{0, 1, 3}, {0, 2, 10}, {1, 0, -3}, {1, 2, 7}};
        for (int k = 0; k < 4; k++) {
            for (int what = 0; what < 3; what++) {
                due("mark " + k + ", " + what, desk.shown(1, k, what), marks[k][what]);
            }
        }
        due("then it is safe", desk.verify(100), SAFE);
        sameVariableGivesEquality();
        brokenBelowGivesNoMark();
        valuesFromBelowReachTheHead();
    }

    private static void sameVariableGivesEquality() {
        ClauseDesk desk = oneOfEach();
        desk.clause(1, 3, 3);
        desk.clause(-1, 0, 0);
        desk.atom(1, 0, 1);
        desk.bound(0, 1, -1);
        desk.verify(2);
        due("p(x, x) against x < y", desk.refine(), 2);
        due("x - y <= 0", desk.shown(1, 0, 0) * 100 + desk.shown(1, 0, 1) * 10 + desk.shown(1, 0, 2), 10);
        due("y - x <= 0", desk.shown(1, 1, 0) * 100 + desk.shown(1, 1, 1) * 10 + desk.shown(1, 1, 2), 100);
        due("then it is safe", desk.verify(100), SAFE);
    }

    /** q(x) if p(x) and x >= 5, p(0): q's node breaks by itself, and only p gets marks. */
    private static void brokenBelowGivesNoMark() {
        ClauseDesk desk = new ClauseDesk();
        desk.relation(1);
        desk.relation(1);
        desk.clause(0, 0, 0);
        equation(desk, 0, 5, 0);
        desk.clause(1, 0, 0);
        desk.atom(0, 0, 0);
        desk.bound(5, 0, -5);
        desk.clause(-1, 0, 0);
        desk.atom(1, 0, 0);
        desk.verify(3);
        due("a tree of three", desk.state(5), 3);
        due("refine", desk.refine(), 2);
        due("p's marks", desk.shown(0, 1, 2), 0);
        refused("q has no mark", () -> refinedAt(brokenBelow()), d -> d.shown(1, 0, 0), NOT_FOUND);
    }

    private static ClauseDesk brokenBelow() {
        ClauseDesk desk = new ClauseDesk();
        desk.relation(1);
        desk.relation(1);
        desk.clause(0, 0, 0);
        desk.bound(0, 5, 4);
        desk.clause(1, 0, 0);
        desk.atom(0, 0, 0);
        desk.bound(5, 0, -5);
        desk.clause(-1, 0, 0);
        desk.atom(1, 0, 0);
        desk.verify(3);
        return desk;
    }

    /** q(y) if p(x) and y = x + 7, p(2): that y is 9 is seen only together with what is below. */
    private static void valuesFromBelowReachTheHead() {
        ClauseDesk desk = new ClauseDesk();
        desk.relation(1);
        desk.relation(1);
        desk.clause(0, 4, 0);
        equation(desk, 4, 5, 2);
        desk.clause(1, 1, 0);
        desk.atom(0, 0, 0);
        equation(desk, 1, 0, 7);
        desk.clause(-1, 0, 0);
        desk.atom(1, 3, 0);
        desk.bound(3, 5, 8);
        desk.verify(3);
        due("refine", desk.refine(), 4);
        due("q's node comes first, y <= 9", desk.shown(1, 0, 2), 9);
        due("-y <= -9", desk.shown(1, 1, 2), -9);
        due("p's, x <= 2", desk.shown(0, 0, 2), 2);
        due("-x <= -2", desk.shown(0, 1, 2), -2);
    }

    private static void promise8LimitsOfMarks() {
        due("c = 1000 becomes a mark", farCounter(1000), 2);
        due("c = 1001 does not", farCounter(1001), 0);
        ClauseDesk desk = counter(9, 11);
        desk.mark(0, 0, 2, 500);
        desk.mark(0, 0, 2, 501);
        desk.mark(0, 0, 2, 502);
        desk.verify(2);
        due("only a fourth mark comes", desk.refine(), 1);
        due("x <= 0", desk.shown(0, 3, 2), 0);
        desk.verify(3);
        due("an alarm again", desk.state(4), 2);
        due("no room", desk.refine(), 0);
        due("unknown", desk.state(2), UNKNOWN);
        due("the alarm stays", desk.state(4), 2);
        due("counted once", desk.state(6), 1);
        ClauseDesk there = counter(9, 11);
        there.mark(0, 2, 0, 0);
        there.verify(2);
        due("a mark that is there is not made again", there.refine(), 1);
        due("x <= 0", there.shown(0, 1, 0), 0);
    }

    /** p(x) at x = far, by way of y = 1000, against x <= 0: how many marks come. */
    private static int farCounter(int far) {
        ClauseDesk desk = new ClauseDesk();
        desk.relation(1);
        desk.clause(0, 0, 0);
        equation(desk, 1, 5, 1000);
        equation(desk, 0, 1, far - 1000);
        desk.clause(-1, 0, 0);
        desk.atom(0, 0, 0);
        desk.bound(0, 5, 0);
        desk.verify(2);
        int came = desk.refine();
        due("verdict with marks at " + far, desk.state(2), came == 0 ? UNKNOWN : 0);
        return came;
    }

    private static void promise8TooManyNodes() {
        ClauseDesk forty = ladderWithAlarm(1);
        due("forty nodes", forty.state(5), 40);
        due("the last one's clause", forty.node(39, 0), 0);
        due("the tree holds", forty.refine(), 0);
        due("unsafe", forty.state(2), UNSAFE);
        ClauseDesk more = ladderWithAlarm(2);
        due("more than forty", more.state(5), 41);
        due("refine", more.refine(), 0);
        due("unknown", more.state(2), UNKNOWN);
        due("still more than forty", more.state(5), 41);
        due("not counted", more.state(6), 0);
    }

    private static void promise9Verify() {
        ClauseDesk desk = counter(9, 11);
        due("no fuel", desk.verify(0), 0);
        due("no step", desk.state(3), 0);
        due("two steps", desk.verify(2), 0);
        due("which raise the alarm", desk.state(4), 2);
        due("one more", desk.verify(1), 0);
        due("which refines", desk.state(6), 1);
        due("until there is a verdict", desk.verify(100), UNKNOWN);
        due("which then stays", desk.verify(100), UNKNOWN);
        due("even without fuel", desk.verify(0), UNKNOWN);
        due("safe", closedCounter().state(2), SAFE);
        due("unsafe", unsafeCounter().state(2), UNSAFE);
        for (int fuel : new int[] {-1, 101, Integer.MIN_VALUE, Integer.MAX_VALUE}) {
            refused("verify(" + fuel + ")", PromisesTest::counterWithAlarm, d -> d.verify(fuel), ARGUMENT);
            refused("verify(" + fuel + ") when closed", PromisesTest::closedCounter, d -> d.verify(fuel), ARGUMENT);
        }
    }

    private static void promise10Start() {
        ClauseDesk desk = counterWithAlarm();
        desk.refine();
        desk.verify(100);
        desk.start();
        int[] all = {1, 3, 0, 0, -1, 0, 2};
        for (int what = 0; what < 7; what++) {
            due("after start, state(" + what + ")", desk.state(what), all[what]);
        }
        due("marks stay", desk.shown(0, 3, 2), -1);
        for (int cube = 0; cube < 16; cube++) {
            due("no states", desk.cube(0, cube, 0), 0);
        }
        due("it goes on as new", desk.round(), 1);
        desk = closedCounter();
        desk.start();
        due("no verdict", desk.state(2), 0);
        due("but again the same", desk.verify(3), SAFE);
    }

    private static void promise11Check() {
        ClauseDesk desk = counter(9, 11);
        desk.mark(0, 0, 2, 0);
        desk.mark(0, 0, 2, 10);
        due("p(0) is missing", desk.check(), 0);
        desk.round();
        due("p(1) is missing", desk.check(), 1);
        desk.round();
        due("all hold", desk.check(), -1);
        desk.round();
        due("closed", desk.state(2), SAFE);
        due("all hold", desk.check(), -1);
        ClauseDesk alarm = counterWithAlarm();
        due("the alarm's clause", alarm.check(), 2);
        ClauseDesk twoPremises = ladder();
        twoPremises.verify(4);
        due("p(4) is missing", twoPremises.check(), 1);
        twoPremises.round();
        due("now it holds", twoPremises.check(), -1);
        ClauseDesk falseFirst = new ClauseDesk();
        falseFirst.clause(-1, 0, 0);
        due("FALSE without body", falseFirst.check(), 0);
        falseFirst.bound(0, 5, -1);
        falseFirst.bound(5, 0, 0);
        due("FALSE with bounds that break", falseFirst.check(), -1);
        due("check makes no round", falseFirst.state(3), 0);
    }

    private static ClauseDesk bounds() {
        ClauseDesk desk = new ClauseDesk();
        desk.clause(-1, 0, 0);
        desk.bound(0, 1, 1000);
        desk.bound(1, 2, 1000);
        desk.bound(2, 3, 1000);
        desk.bound(0, 3, 900);
        desk.bound(3, 5, -7);
        desk.bound(5, 4, 2);
        desk.clause(-1, 0, 0);
        desk.bound(0, 1, -1);
        desk.bound(1, 0, 0);
        desk.clause(-1, 0, 0);
        desk.bound(0, 1, -1);
        desk.bound(1, 0, 1);
        return desk;
    }

    private static void promise12Follows() {
        ClauseDesk desk = bounds();
        int[][] dues = {{0, 0, 1, 1000}, {0, 0, 2, 2000}, {0, 0, 3, 900}, {0, 1, 3, 2000}, {0, 0, 5, 893},
            {0, 1, 4, 1995}, {0, 3, 4, -5}, {2, 0, 1, -1}, {2, 1, 0, 1}};
        for (int[] a : dues) {
            due("follows" + Arrays.toString(a), desk.follows(a[0], a[1], a[2]), a[3]);
        }
        int[][] bad = {{-1, 0, 1}, {3, 0, 1}, {0, 0, 0}, {1, 5, 5}, {0, 6, 0}, {1, 0, 6}, {0, -1, 0}, {0, 0, -1}};
        for (int[] a : bad) {
            refused("follows" + Arrays.toString(a), PromisesTest::bounds, d -> d.follows(a[0], a[1], a[2]), ARGUMENT);
        }
        refused("follows, broken", PromisesTest::bounds, d -> d.follows(1, 0, 1), ARITHMETIC);
        refused("follows, broken and free", PromisesTest::bounds, d -> d.follows(1, 3, 4), ARITHMETIC);
        refused("follows, free", PromisesTest::bounds, d -> d.follows(0, 1, 0), NOT_FOUND);
        refused("follows, free", PromisesTest::bounds, d -> d.follows(2, 0, 5), NOT_FOUND);
    }

    private static void promise13State() {
        ClauseDesk desk = counterWithAlarm();
        int[] all = {1, 3, 0, 2, 2, 2, 0};
        for (int what = 0; what < 7; what++) {
            due("state(" + what + ")", desk.state(what), all[what]);
        }
        for (int what : new int[] {-1, 7, 8, Integer.MIN_VALUE, Integer.MAX_VALUE}) {
            due("state(" + what + ")", desk.state(what), -1);
        }
        desk.verify(100);
        due("refined twice", desk.state(6), 2);
        desk.relation(1);
        due("which is never forgotten", desk.state(6), 2);
        due("relations", desk.state(0), 2);
    }

    private static void promise14Shown() {
        ClauseDesk desk = fourMarks();
        int[][] marks = {{0, 1, 1000}, {1, 0, -1000}, {0, 2, 5}, {2, 1, 5}};
        for (int k = 0; k < 4; k++) {
            for (int what = 0; what < 3; what++) {
                due("shown(0, " + k + ", " + what + ")", desk.shown(0, k, what), marks[k][what]);
            }
        }
        int[][] bad = {{-1, 0, 0}, {2, 0, 0}, {0, 0, 3}, {0, 0, -1}, {0, 9, 3}, {1, 0, -1}, {4, 9, 9}};
        for (int[] a : bad) {
            refused("shown" + Arrays.toString(a), PromisesTest::fourMarks, d -> d.shown(a[0], a[1], a[2]), ARGUMENT);
        }
        for (int k : new int[] {-1, 4, Integer.MAX_VALUE, Integer.MIN_VALUE}) {
            refused("shown, mark " + k, PromisesTest::fourMarks, d -> d.shown(0, k, 2), NOT_FOUND);
        }
        refused("shown, no mark", PromisesTest::fourMarks, d -> d.shown(1, 0, 0), NOT_FOUND);
    }

    private static void promise15Cube() {
        ClauseDesk desk = ladder();
        due("before a round", desk.cube(0, 15, 1), -1);
        desk.verify(100);
        int[][] dues = {{0, 15, 1, 0, -1, -1, 1}, {0, 14, 2, 1, 15, 15, 1}, {0, 12, 3, 1, 14, 14, 1},
            {0, 1, 0, -1, -1, -1, 0}, {1, 0, 4, 2, 12, -1, 1}, {2, 0, 5, 3, 0, -1, 1}};
        for (int[] a : dues) {
            for (int what = 0; what < 5; what++) {
                due("cube(" + a[0] + ", " + a[1] + ", " + what + ")", desk.cube(a[0], a[1], what), a[2 + what]);
            }
        }
        ClauseDesk pairs = fourMarks();
        pairs.mark(1, 0, 2, -3);
        due("two cubes", pairs.cube(1, 1, 4), 1);
        due("x - y <= 1000 and y - x <= -1000 hold together", pairs.cube(0, 3, 4), 1);
        due("no marks true", pairs.cube(0, 0, 4), 0);
        int[][] bad = {{-1, 0, 0}, {2, 0, 0}, {0, -1, 0}, {0, 16, 0}, {1, 1, 0}, {0, 0, 5}, {0, 0, -1}, {1, 1, 4}};
        for (int[] a : bad) {
            refused("cube" + Arrays.toString(a), PromisesTest::fourMarks, d -> d.cube(a[0], a[1], a[2]), ARGUMENT);
        }
    }

    private static void promise16Node() {
        ClauseDesk desk = ladder();
        desk.clause(-1, 0, 0);
        desk.atom(0, 0, 0);
        desk.atom(2, 1, 0);
        equation(desk, 0, 5, 1);
        desk.verify(6);
        due("a tree of thirteen", desk.state(5), 13);
        int[][] nodes = {{4, -1, -1}, {1, 0, 14}, {0, 1, 15}, {0, 1, 15}, {3, 0, 0}, {2, 4, 0}, {1, 5, 12},
            {1, 6, 14}, {0, 7, 15}, {0, 7, 15}, {1, 6, 14}, {0, 10, 15}, {0, 10, 15}};
        for (int k = 0; k < nodes.length; k++) {
            for (int what = 0; what < 3; what++) {
                due("node(" + k + ", " + what + ")", desk.node(k, what), nodes[k][what]);
            }
        }
        for (int what : new int[] {-1, 3, Integer.MAX_VALUE, Integer.MIN_VALUE}) {
            refused("node(0, " + what + ")", PromisesTest::counterWithAlarm, d -> d.node(0, what), ARGUMENT);
            refused("node(9, " + what + ")", PromisesTest::counterWithAlarm, d -> d.node(9, what), ARGUMENT);
            refused("no alarm, what " + what, ClauseDesk::new, d -> d.node(0, what), ARGUMENT);
        }
        for (int k : new int[] {-1, 2, 40, 41, Integer.MAX_VALUE, Integer.MIN_VALUE}) {
            refused("node(" + k + ", 0)", PromisesTest::counterWithAlarm, d -> d.node(k, 0), NOT_FOUND);
        }
        refused("no alarm", () -> counter(9, 11), d -> d.node(0, 0), NOT_FOUND);
        refused("forty nodes, node(40, 0)", () -> ladderWithAlarm(1), d -> d.node(40, 0), NOT_FOUND);
        refused("more than forty", () -> ladderWithAlarm(2), d -> d.node(0, 0), NOT_FOUND);
        refused("more than forty", () -> ladderWithAlarm(2), d -> d.node(40, 0), NOT_FOUND);
    }

    private static void makingIsAFreshStart() {
        Call[] makers = {d -> d.relation(1), d -> d.mark(1, 0, 2, 77), d -> d.clause(-1, 0, 0),
            d -> d.atom(0, 0, 0), d -> d.bound(0, 1, 0)};
        for (int m = 0; m < makers.length; m++) {
            for (int verdict = 0; verdict < 4; verdict++) {
                ClauseDesk desk = withVerdict(verdict);
                due("verdict", desk.state(2), verdict);
                makers[m].on(desk);
                String what = "after maker " + m + " with verdict " + verdict + ", state ";
                due(what + 2, desk.state(2), 0);
                due(what + 3, desk.state(3), 0);
                due(what + 4, desk.state(4), -1);
                due(what + 5, desk.state(5), 0);
                due("after maker " + m + ", height", desk.cube(0, 0, 0) + desk.cube(0, 1, 0), 0);
            }
        }
    }

    private static ClauseDesk withVerdict(int verdict) {
        ClauseDesk desk = counter(9, verdict == UNSAFE ? 0 : 11);
        desk.relation(1);
        desk.mark(0, 0, 2, verdict == SAFE ? 10 : 0);
        desk.verify(verdict == 0 ? 3 : 100);
        return desk;
    }
}
