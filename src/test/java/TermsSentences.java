/** The sentences under "Terms" about bounds, clauses, marks and cubes, and the test that holds to each. */
final class TermsSentences {
    private static final String TERMS = "Terms";

    private TermsSentences() {
    }

    static void all() {
        Bench.holds(TERMS, "RELATIONS 0 .. 3 have 1 or 2 PLACES.", TermsSentences::relationsAndPlaces);
        Bench.holds(TERMS, "A BOUND is u - v <= c, of two different ones u, v of some variables and ZERO",
                TermsSentences::twoDifferentOnes);
        Bench.holds(TERMS, "(whose value is 0),", TermsSentences::zeroIsZero);
        Bench.holds(TERMS, "c being -1000 .. 1000;", TermsSentences::limits);
        Bench.holds(TERMS, "its OPPOSITE is v - u <= -c - 1.", TermsSentences::opposites);
        Bench.holds(TERMS, "A set of bounds HOLDS TOGETHER if whole numbers can be given to the variables so that "
                + "all are true.", TermsSentences::holdingTogether);
        Bench.holds(TERMS, "A CLAUSE, 0 .. 11, has variables 0 .. 4,", TermsSentences::twelveClauses);
        Bench.holds(TERMS, "a HEAD: a relation with a variable for each place, or FALSE;", TermsSentences::heads);
        Bench.holds(TERMS, "a BODY of at most 2 ATOMS: a relation with a variable for each place;",
                TermsSentences::bodies);
        Bench.holds(TERMS, "and at most 8 bounds on its variables and ZERO.", TermsSentences::eightBounds);
        Bench.holds(TERMS, "(It says that whatever numbers its variables are, if its bounds are true and its atoms "
                + "are, the head is.)", TermsSentences::whatClausesSay);
        Bench.holds(TERMS, "The variables of one atom, or of the head, need not be different.",
                TermsSentences::sameVariableTwice);
        Bench.holds(TERMS, "A relation has at most 4 MARKS: bounds on its places and ZERO.",
                TermsSentences::fourMarks);
        Bench.holds(TERMS, "A CUBE of it is a number 0 .. 2^marks - 1:", TermsSentences::cubeNumbers);
        Bench.holds(TERMS, "bit k tells whether mark k is true.", TermsSentences::bits);
        Bench.holds(TERMS, "The cube ALLOWS numbers for which exactly the marks of its bits are true: its marks with "
                + "a bit 1, and the opposites of the others.", TermsSentences::allowedNumbers);
        Bench.holds(TERMS, "VERDICTS: 0 none yet, 1 SAFE, when the search has closed, 2 UNSAFE, 3 UNKNOWN.",
                TermsSentences::verdicts);
        Bench.holds(TERMS, "A method that throws changes nothing.", TermsSentences::throwingChangesNothing);
    }

    private static void relationsAndPlaces() {
        ClauseDesk desk = Desks.relations(1, 2, 1, 2);
        Bench.due("a mark on the only place of relation 0", desk.mark(0, 0, 2, 0), 0);
        Bench.due("a mark on both places of relation 3", desk.mark(3, 0, 1, 0), 0);
        Bench.refused("a mark on a second place of relation 2", () -> Desks.relations(1, 2, 1, 2),
                d -> d.mark(2, 1, 2, 0), Bench.ARGUMENT);
        Bench.refused("a mark of relation 4", () -> Desks.relations(1, 2, 1, 2), d -> d.mark(4, 0, 2, 0),
                Bench.ARGUMENT);
        Bench.refused("a fifth relation", () -> Desks.relations(1, 2, 1, 2), d -> d.relation(1), Bench.STATE);
    }

    private static ClauseDesk withClause() {
        ClauseDesk desk = Desks.relations(1, 2);
        desk.clause(0, 0, 0);
        return desk;
    }

    private static void twoDifferentOnes() {
        for (int u = 0; u <= 5; u++) {
            for (int v = 0; v <= 5; v++) {
                int first = u;
                int second = v;
                if (u == v) {
                    Bench.refused("bound(" + u + ", " + u + ", 0)", TermsSentences::withClause,
                            d -> d.bound(first, first, 0), Bench.ARGUMENT);
                } else {
                    Bench.due("bound(" + u + ", " + v + ", 0)", withClause().bound(first, second, 0), 1);
                }
            }
        }
        for (int p = 0; p <= 2; p++) {
            int corner = p;
            Bench.refused("mark(1, " + p + ", " + p + ", 0)", TermsSentences::withClause,
                    d -> d.mark(1, corner, corner, 0), Bench.ARGUMENT);
            Bench.due("mark(1, " + p + ", " + (p + 1) % 3 + ", 0)", withClause().mark(1, p, (p + 1) % 3, 0), 0);
        }
    }

    /** x = ZERO is neither x <= -1 nor x >= 1; and the ZERO of two nodes is the same one. */
    private static void zeroIsZero() {
        ClauseDesk desk = Desks.relations(1);
        desk.mark(0, 0, 2, -1);
        desk.mark(0, 2, 0, -1);
        desk.clause(0, 3, 0);
        Desks.equation(desk, 3, 5, 0);
        Bench.due("one cube has x = 0", desk.round(), 1);
        Bench.due("the one without both marks", Sight.states(desk, 0), "0:1/0/-1/-1");
        Bench.due("x = 0 in one node, x >= 0 in another", verdictOfZero(0), 2);
        Bench.due("x = 0 in one node, x >= 1 in another", verdictOfZero(1), 0);
    }

    private static int verdictOfZero(int least) {
        ClauseDesk desk = Desks.relations(1);
        desk.clause(0, 3, 0);
        Desks.equation(desk, 3, 5, 0);
        desk.clause(-1, 0, 0);
        desk.atom(0, 1, 0);
        desk.bound(5, 1, -least);
        return desk.verify(3);
    }

    private static void limits() {
        for (int c : new int[] {-1000, -999, 0, 999, 1000}) {
            ClauseDesk desk = withClause();
            Bench.due("bound(0, 5, " + c + ")", desk.bound(0, 5, c), 1);
            Bench.due("which follows", desk.follows(0, 0, 5), c);
            Bench.due("mark(0, 0, 2, " + c + ")", desk.mark(0, 0, 2, c), 0);
            Bench.due("which is shown", desk.shown(0, 0, 2), c);
        }
        for (int c : new int[] {-1001, 1001, Integer.MIN_VALUE, Integer.MAX_VALUE}) {
            Bench.refused("bound(0, 5, " + c + ")", TermsSentences::withClause, d -> d.bound(0, 5, c),
                    Bench.ARGUMENT);
            Bench.refused("mark(0, 0, 2, " + c + ")", TermsSentences::withClause, d -> d.mark(0, 0, 2, c),
                    Bench.ARGUMENT);
        }
    }

    /** The opposite of the greatest bound has a limit that no bound has, and still counts. */
    private static void opposites() {
        for (int c : new int[] {-1000, -1, 0, 1000}) {
            Bench.due("x = c with the mark x <= " + c, cubesBetween(c, c, c), "1:1/0/-1/-1");
            Bench.due("x = c + 1 with the mark x <= " + c, cubesBetween(c, c + 1, c + 1), "0:1/0/-1/-1");
            Bench.due("both with the mark x <= " + c, cubesBetween(c, c, c + 1), "0:1/0/-1/-1 1:1/0/-1/-1");
        }
        ClauseDesk desk = Desks.relations(1);
        desk.mark(0, 0, 2, 3);
        Bench.due("the opposite is another mark", desk.mark(0, 2, 0, -4), 1);
        Bench.due("of which exactly one is true", Sight.allowing(desk, 0), "1 2");
    }

    /** The states of p(x) if low <= x <= high, with the mark x <= c; each end may be up to 2000. */
    private static String cubesBetween(int c, int low, int high) {
        ClauseDesk desk = Desks.relations(1);
        desk.mark(0, 0, 2, c);
        desk.clause(0, 0, 0);
        desk.bound(0, 1, high / 2);
        desk.bound(1, 5, high - high / 2);
        desk.bound(5, 2, -(low / 2));
        desk.bound(2, 0, low / 2 - low);
        desk.round();
        return Sight.states(desk, 0);
    }

    private static void holdingTogether() {
        Bench.due("a round trip of 0 through all points", roundTrip(1000), "1000");
        Bench.due("a round trip of -1 through all points", roundTrip(999), "ArithmeticException");
        Bench.due("x < y < z <= x + 2", twoSteps(2), "-1");
        Bench.due("x < y < z <= x + 1", twoSteps(1), "ArithmeticException");
        ClauseDesk desk = withClause();
        Bench.due("no bounds at all", desk.round(), 1);
        desk.bound(5, 0, -1000);
        Bench.due("one bound alone", desk.round(), 1);
        desk.bound(0, 5, 999);
        Bench.due("x >= 1000 and x <= 999", desk.round(), 0);
    }

    private static String roundTrip(int first) {
        ClauseDesk desk = withClause();
        desk.bound(0, 1, first);
        desk.bound(1, 2, 1000);
        desk.bound(2, 3, 1000);
        desk.bound(3, 4, -1000);
        desk.bound(4, 5, -1000);
        desk.bound(5, 0, -1000);
        return Bench.outcome(desk, d -> d.follows(0, 0, 5));
    }

    private static String twoSteps(int room) {
        ClauseDesk desk = withClause();
        desk.bound(0, 1, -1);
        desk.bound(1, 2, -1);
        desk.bound(2, 0, room);
        return Bench.outcome(desk, d -> d.follows(0, 1, 2));
    }

    private static ClauseDesk oneOfEach() {
        return Desks.relations(1, 2);
    }

    private static void twelveClauses() {
        ClauseDesk desk = oneOfEach();
        for (int k = 0; k < 12; k++) {
            Bench.due("a clause", desk.clause(k % 3 - 1, k % 5, 4 - k % 5), k);
            Bench.due("its bound", desk.bound(k % 5, 5, k), 1);
        }
        Bench.due("the first one's bound", desk.follows(0, 0, 5), 0);
        Bench.due("the last one's bound", desk.follows(11, 1, 5), 11);
        Bench.refused("a 13th clause", () -> Desks.full(0), d -> d.clause(0, 0, 0), Bench.STATE);
        for (int x : new int[] {-1, 5}) {
            Bench.refused("clause(0, " + x + ", 0)", TermsSentences::oneOfEach, d -> d.clause(0, x, 0),
                    Bench.ARGUMENT);
            Bench.refused("clause(1, 0, " + x + ")", TermsSentences::oneOfEach, d -> d.clause(1, 0, x),
                    Bench.ARGUMENT);
            Bench.refused("atom(1, " + x + ", 0)", TermsSentences::withClause, d -> d.atom(1, x, 0),
                    Bench.ARGUMENT);
        }
    }

    /** r(x, y) with x <= 0 at place 0 and y >= 1 at place 1, whatever variables stand there. */
    private static void heads() {
        int[][] variables = {{0, 1}, {1, 0}, {4, 0}, {0, 4}, {3, 4}};
        for (int[] at : variables) {
            ClauseDesk desk = oneOfEach();
            desk.mark(1, 0, 2, 0);
            desk.mark(1, 1, 2, 0);
            desk.clause(1, at[0], at[1]);
            desk.bound(at[0], 5, 0);
            desk.bound(5, at[1], -1);
            Bench.due("one state", desk.round(), 1);
            Bench.due("that of x <= 0 and y >= 1", Sight.states(desk, 1), "1:1/0/-1/-1");
        }
        ClauseDesk falsehood = new ClauseDesk();
        Bench.due("FALSE", falsehood.clause(-1, 0, 0), 0);
        Bench.due("it reaches nothing", falsehood.round(), 0);
        Bench.due("but raises an alarm", falsehood.state(4), 0);
    }

    private static void bodies() {
        Bench.due("no atom", reachedWithAtoms(), "0:1/2/-1/-1");
        Bench.due("one that is true", reachedWithAtoms(0), "0:2/2/0/-1");
        Bench.due("one that is not", reachedWithAtoms(1), "");
        Bench.due("two that are true", reachedWithAtoms(0, 0), "0:2/2/0/0");
        Bench.due("two, the first of which is not", reachedWithAtoms(1, 0), "");
        Bench.due("two, the second of which is not", reachedWithAtoms(0, 1), "");
        Bench.refused("a third atom", () -> Desks.full(0), d -> d.atom(0, 0, 0), Bench.STATE);
    }

    /** Relation 0 is true of all, relation 1 of none; what is reached of relation 2 by these atoms. */
    private static String reachedWithAtoms(int... atoms) {
        ClauseDesk desk = Desks.relations(1, 1, 1);
        desk.clause(0, 0, 0);
        desk.clause(1, 0, 0);
        desk.atom(1, 0, 0);
        desk.clause(2, 0, 0);
        for (int r : atoms) {
            desk.atom(r, r, 0);
        }
        desk.verify(4);
        return Sight.states(desk, 2);
    }

    private static void eightBounds() {
        ClauseDesk desk = withClause();
        for (int i = 1; i <= 7; i++) {
            Bench.due("the same bound again", desk.bound(0, 5, 1000), i);
        }
        Bench.due("an eighth one", desk.bound(0, 5, -1000), 8);
        Bench.due("counts like the others", desk.follows(0, 0, 5), -1000);
        Bench.refused("a ninth", () -> Desks.full(0), d -> d.bound(0, 1, 0), Bench.STATE);
        Bench.refused("a ninth that is there already", () -> Desks.full(0), d -> d.bound(5, 0, 1000), Bench.STATE);
    }

    private static void whatClausesSay() {
        ClauseDesk desk = Desks.relations(1, 1);
        desk.mark(0, 0, 2, 0);
        desk.mark(0, 0, 2, 5);
        desk.mark(1, 0, 2, 0);
        desk.clause(0, 0, 0);
        Bench.due("all cubes that allow numbers", desk.round(), 3);
        Bench.due("and no other", Sight.states(desk, 0), "0:1/0/-1/-1 2:1/0/-1/-1 3:1/0/-1/-1");
        desk.clause(1, 1, 0);
        desk.atom(0, 0, 0);
        Desks.equation(desk, 1, 0, 1);
        desk.bound(0, 5, 0);
        Bench.due("x + 1 for all x <= 0", desk.verify(4), 1);
        Bench.due("is 1, 0 and less", Sight.states(desk, 1), "0:2/1/3/-1 1:2/1/3/-1");
        desk.bound(3, 4, -1);
        desk.bound(4, 3, 0);
        Bench.due("bounds that can't be true, on others", desk.verify(4), 1);
        Bench.due("then nothing is said", Sight.states(desk, 1), "");
    }

    private static void sameVariableTwice() {
        ClauseDesk head = oneOfEach();
        head.mark(1, 0, 1, -1);
        head.mark(1, 1, 0, -1);
        head.clause(1, 2, 2);
        Bench.due("p(x, x)", head.round(), 1);
        Bench.due("where the places are the same", Sight.states(head, 1), "0:1/0/-1/-1");
        ClauseDesk atom = oneOfEach();
        atom.mark(1, 0, 1, -1);
        atom.clause(1, 0, 1);
        atom.bound(0, 1, -1);
        atom.clause(0, 3, 0);
        atom.atom(1, 3, 3);
        Bench.due("p(x, y) if x < y", atom.round(), 1);
        Bench.due("p(z, z) is never", atom.round(), 0);
        Bench.due("so it closes", atom.state(2), 1);
    }

    private static void fourMarks() {
        ClauseDesk desk = Desks.relations(2, 1);
        int[][] marks = {{0, 1, 1000}, {1, 0, -1000}, {0, 2, 5}, {2, 1, 5}};
        for (int k = 0; k < 4; k++) {
            Bench.due("a mark", desk.mark(0, marks[k][0], marks[k][1], marks[k][2]), k);
        }
        Bench.due("they stand", Sight.marks(desk, 0), "0-1<=1000 1-0<=-1000 0-2<=5 2-1<=5");
        Bench.due("another relation has its own four", desk.mark(1, 2, 0, 5), 0);
        Bench.refused("a fifth", Desks::fourMarks, d -> d.mark(0, 1, 2, 0), Bench.STATE);
    }

    private static ClauseDesk withMarks(int count) {
        ClauseDesk desk = Desks.relations(1);
        for (int c = 0; c < count; c++) {
            desk.mark(0, 0, 2, c);
        }
        return desk;
    }

    private static void cubeNumbers() {
        for (int marks = 0; marks <= 4; marks++) {
            int count = marks;
            int cubes = 1 << marks;
            Bench.due("the first cube of " + marks + " marks", withMarks(marks).cube(0, 0, 0), 0);
            Bench.due("the last cube of " + marks + " marks", withMarks(marks).cube(0, cubes - 1, 0), 0);
            Bench.refused("one more", () -> withMarks(count), d -> d.cube(0, cubes, 0), Bench.ARGUMENT);
            Bench.refused("cube -1", () -> withMarks(count), d -> d.cube(0, -1, 0), Bench.ARGUMENT);
        }
    }

    private static void bits() {
        int[] cubes = {15, 14, 12, 8, 0, 0};
        for (int x = 0; x < cubes.length; x++) {
            ClauseDesk desk = withMarks(4);
            desk.clause(0, 0, 0);
            Desks.equation(desk, 0, 5, x);
            desk.round();
            Bench.due("x = " + x, Sight.states(desk, 0), cubes[x] + ":1/0/-1/-1");
        }
    }

    private static void allowedNumbers() {
        Bench.due("no marks", allowing(), "0");
        Bench.due("x <= 0, x <= 5", allowing(0, 2, 0, 0, 2, 5), "0 2 3");
        Bench.due("x <= 3, x >= 4", allowing(0, 2, 3, 2, 0, -4), "1 2");
        Bench.due("x <= 3, x >= 3", allowing(0, 2, 3, 2, 0, -3), "1 2 3");
        Bench.due("x <= y, y <= 0, x >= 1", allowing(0, 1, 0, 1, 2, 0, 2, 0, -1), "1 2 3 4 5 6");
        Bench.due("x <= y - 1000, y <= -1000, x >= -1000", allowing(0, 1, -1000, 1, 2, -1000, 2, 0, 1000),
                "0 1 2 3 4 5 6");
        Bench.due("x <= y + 1000, y <= 1000, x >= 1000", allowing(0, 1, 1000, 1, 2, 1000, 2, 0, -1000),
                "1 2 3 4 5 6 7");
        Bench.due("x <= 1000, x <= -1000", allowing(0, 2, 1000, 0, 2, -1000), "0 1 3");
    }

    /** The cubes that allow numbers, of a relation of two places with these marks. */
    private static String allowing(int... marks) {
        ClauseDesk desk = Desks.relations(2);
        for (int i = 0; i < marks.length; i += 3) {
            desk.mark(0, marks[i], marks[i + 1], marks[i + 2]);
        }
        return Sight.allowing(desk, 0);
    }

    private static void verdicts() {
        int[] verdicts = {0, 0, 0, 1, 2, 3};
        for (int number = 0; number < verdicts.length; number++) {
            Bench.due("situation " + number, Desks.inSituation(number).state(2), verdicts[number]);
        }
    }

    private static void throwingChangesNothing() {
        Bench.Call[] wrong = {d -> d.relation(0), d -> d.relation(3), d -> d.mark(-1, 0, 2, 0),
            d -> d.mark(4, 0, 2, 0), d -> d.mark(0, 0, 0, 0), d -> d.mark(0, 0, 2, 1001), d -> d.clause(-2, 0, 0),
            d -> d.clause(4, 0, 0), d -> d.clause(0, 5, 0), d -> d.atom(-1, 0, 0), d -> d.atom(4, 0, 0),
            d -> d.atom(0, -1, 0), d -> d.bound(0, 0, 0), d -> d.bound(0, 6, 0), d -> d.bound(0, 1, -1001),
            d -> d.verify(-1), d -> d.verify(101), d -> d.follows(12, 0, 1), d -> d.follows(0, 0, 0),
            d -> d.shown(4, 0, 0), d -> d.shown(0, 0, 3), d -> d.cube(4, 0, 0), d -> d.cube(0, 16, 0),
            d -> d.cube(0, 0, 5), d -> d.node(0, 3)};
        for (int i = 0; i < wrong.length * 6; i++) {
            int number = i % 6;
            Bench.refused("wrong call " + i / 6 + " in situation " + number, () -> Desks.inSituation(number),
                    wrong[i / 6], Bench.ARGUMENT);
        }
        fullChangesNothing();
    }

    private static void fullChangesNothing() {
        Bench.Call[] tooMany = {d -> d.relation(2), d -> d.mark(0, 0, 2, 9), d -> d.mark(0, 0, 2, 3),
            d -> d.clause(1, 4, 0), d -> d.clause(-1, 0, 0), d -> d.atom(1, 0, 4), d -> d.bound(5, 0, -1000)};
        for (int i = 0; i < tooMany.length * 5; i++) {
            int steps = i % 5;
            Bench.refused("call " + i / 5 + " too many after " + steps + " steps", () -> Desks.full(steps),
                    tooMany[i / 5], Bench.STATE);
        }
        int[] verdicts = {0, 0, 0, 0, 2};
        int[] alarms = {-1, -1, -1, 11, 11};
        for (int steps = 0; steps <= 4; steps++) {
            Bench.due("verdict after " + steps + " steps", Desks.full(steps).state(2), verdicts[steps]);
            Bench.due("alarm after " + steps + " steps", Desks.full(steps).state(4), alarms[steps]);
        }
    }
}
