import java.util.Arrays;
import java.util.function.Supplier;

/** The sentences of promises 1 to 6, and the test that holds to each. */
final class MakingSentences {
    private static final String NEW = "Promise 1: A new object";
    private static final String RELATION = "Promise 2: relation";
    private static final String MARK = "Promise 3: mark";
    private static final String CLAUSE = "Promise 4: clause";
    private static final String ATOM = "Promise 5: atom";
    private static final String BOUND = "Promise 6: bound";
    private static final int LOWEST = Integer.MIN_VALUE;
    private static final int HIGHEST = Integer.MAX_VALUE;

    private MakingSentences() {
    }

    static void all() {
        Bench.holds(NEW, "Nothing at all;", MakingSentences::nothingAtAll);
        Bench.holds(NEW, "the verdict is none.", MakingSentences::noVerdict);
        Bench.holds(RELATION, "A new relation: its number.", MakingSentences::relationNumbers);
        Bench.holds(RELATION, "IllegalArgumentException when places is not 1 or 2;", MakingSentences::wrongPlaces);
        Bench.holds(RELATION, "else IllegalStateException when there are 4.", MakingSentences::fifthRelation);
        Bench.holds(MARK, "Relation r gets the mark u - v <= c, u and v being places or, 2, ZERO: its number.",
                MakingSentences::markNumbers);
        Bench.holds(MARK, "IllegalArgumentException when there is no such relation,",
                MakingSentences::markOfNoRelation);
        Bench.holds(MARK, "or it is no bound on its places and ZERO;", MakingSentences::markThatIsNoBound);
        Bench.holds(MARK, "else IllegalStateException when it has 4,", MakingSentences::fifthMark);
        Bench.holds(MARK, "or this one.", MakingSentences::sameMark);
        Bench.holds(CLAUSE, "A new clause, without atoms and bounds, with the head r",
                MakingSentences::newClauseIsBare);
        Bench.holds(CLAUSE, "(x and y, the second only for 2 places, its variables),",
                MakingSentences::variablesOfTheHead);
        Bench.holds(CLAUSE, "or FALSE, for r = -1 (x and y count for nothing then):", MakingSentences::falsehood);
        Bench.holds(CLAUSE, "its number.", MakingSentences::clauseNumbers);
        Bench.holds(CLAUSE, "IllegalArgumentException when there is no such relation",
                MakingSentences::clauseOfNoRelation);
        Bench.holds(CLAUSE, "or a variable is not 0 .. 4;", MakingSentences::clauseOfNoVariable);
        Bench.holds(CLAUSE, "else IllegalStateException when there are 12.", MakingSentences::thirteenthClause);
        Bench.holds(ATOM, "The latest clause gets an atom: which it is, 0 or 1.", MakingSentences::atomNumbers);
        Bench.holds(ATOM, "IllegalArgumentException as clause (but r is not -1);", MakingSentences::wrongAtoms);
        Bench.holds(ATOM, "else IllegalStateException when there is no clause",
                MakingSentences::atomWithoutClause);
        Bench.holds(ATOM, "or it has 2.", MakingSentences::thirdAtom);
        Bench.holds(BOUND, "The latest clause gets the bound u - v <= c, u and v being variables 0 .. 4 or, 5, ZERO: "
                + "how many it has.", MakingSentences::boundNumbers);
        Bench.holds(BOUND, "IllegalArgumentException when it is none;", MakingSentences::wrongBounds);
        Bench.holds(BOUND, "else IllegalStateException when there is no clause",
                MakingSentences::boundWithoutClause);
        Bench.holds(BOUND, "or it has 8.", MakingSentences::ninthBound);
    }

    private static void nothingAtAll() {
        ClauseDesk desk = new ClauseDesk();
        Bench.due("counts", Sight.counts(desk), "0 0 0 0 -1 0 0");
        Bench.due("no clause to break", desk.check(), -1);
        Bench.Call[] none = {d -> d.shown(0, 0, 0), d -> d.cube(0, 0, 0), d -> d.follows(0, 0, 1),
            d -> d.mark(0, 0, 2, 0), d -> d.clause(0, 0, 0), d -> d.atom(0, 0, 0)};
        for (int i = 0; i < none.length; i++) {
            Bench.refused("looking for a relation or clause, " + i, ClauseDesk::new, none[i], Bench.ARGUMENT);
        }
        Bench.refused("a node", ClauseDesk::new, d -> d.node(0, 0), Bench.NOT_FOUND);
        Bench.refused("a bound without clause", ClauseDesk::new, d -> d.bound(0, 1, 0), Bench.STATE);
        Bench.due("a round reaches nothing", desk.round(), 0);
        Desks.counterWithAlarm();
        Bench.due("desks have nothing in common", Sight.counts(new ClauseDesk()), "0 0 0 0 -1 0 0");
    }

    private static void noVerdict() {
        Bench.due("state(2)", new ClauseDesk().state(2), 0);
        Bench.due("verify(0)", new ClauseDesk().verify(0), 0);
        Bench.due("a round can be made", new ClauseDesk().round(), 0);
        Bench.refused("nothing to refine", ClauseDesk::new, ClauseDesk::refine, Bench.STATE);
    }

    private static void relationNumbers() {
        ClauseDesk desk = new ClauseDesk();
        for (int r = 0; r < 4; r++) {
            Bench.due("a relation", desk.relation(2 - r % 2), r);
            Bench.due("how many", desk.state(0), r + 1);
            Bench.due("without marks", Sight.marks(desk, r), "");
            Bench.due("with one cube", Sight.allowing(desk, r), "0");
        }
    }

    private static ClauseDesk fourRelations() {
        return Desks.relations(1, 2, 1, 2);
    }

    private static void wrongPlaces() {
        Bench.due("1", new ClauseDesk().relation(1), 0);
        Bench.due("2", new ClauseDesk().relation(2), 0);
        for (int places : new int[] {LOWEST, -1, 0, 3, HIGHEST}) {
            Bench.refused("relation(" + places + ")", ClauseDesk::new, d -> d.relation(places), Bench.ARGUMENT);
            Bench.refused("relation(" + places + ") with an alarm", Desks::counterWithAlarm,
                    d -> d.relation(places), Bench.ARGUMENT);
            Bench.refused("a fifth relation(" + places + ")", MakingSentences::fourRelations,
                    d -> d.relation(places), Bench.ARGUMENT);
        }
    }

    private static void fifthRelation() {
        Bench.due("the fourth", Desks.relations(1, 2, 1).relation(2), 3);
        Bench.refused("relation(1)", MakingSentences::fourRelations, d -> d.relation(1), Bench.STATE);
        Bench.refused("relation(2)", MakingSentences::fourRelations, d -> d.relation(2), Bench.STATE);
    }

    private static void markNumbers() {
        ClauseDesk desk = Desks.relations(1, 2);
        Bench.due("place 0 against ZERO", desk.mark(0, 0, 2, 1000), 0);
        Bench.due("ZERO against place 0", desk.mark(0, 2, 0, -1000), 1);
        int[][] pairs = {{0, 1}, {1, 0}, {1, 2}, {2, 1}};
        for (int k = 0; k < 4; k++) {
            Bench.due("two places and ZERO", desk.mark(1, pairs[k][0], pairs[k][1], k), k);
        }
        Bench.due("relation 0", Sight.marks(desk, 0), "0-2<=1000 2-0<=-1000");
        Bench.due("relation 1", Sight.marks(desk, 1), "0-1<=0 1-0<=1 1-2<=2 2-1<=3");
        Bench.due("after two of refining", refined().mark(0, 0, 2, 50), 2);
    }

    /** A counter with a mark, a relation of two places without one, and a state. */
    private static ClauseDesk marked() {
        ClauseDesk desk = Desks.counter(9, 11);
        desk.relation(2);
        desk.mark(0, 0, 2, 3);
        desk.round();
        return desk;
    }

    private static void markOfNoRelation() {
        for (int r : new int[] {LOWEST, -1, 2, 4, HIGHEST}) {
            Bench.refused("mark(" + r + ", 0, 2, 0)", MakingSentences::marked, d -> d.mark(r, 0, 2, 0),
                    Bench.ARGUMENT);
        }
        Bench.due("the last relation", marked().mark(1, 0, 2, 0), 0);
    }

    private static void markThatIsNoBound() {
        int[][] wrong = {{0, 0, 0, 0}, {0, 2, 2, 0}, {0, 1, 2, 0}, {0, 0, 1, 0}, {0, 2, 1, 0}, {0, 1, 0, 0},
            {0, 1, 1, 0}, {0, 3, 2, 0}, {0, 0, 3, 0}, {0, -1, 2, 0}, {0, 0, -1, 0}, {0, LOWEST, 2, 0},
            {0, 0, HIGHEST, 0}, {1, 0, 0, 0}, {1, 1, 1, 0}, {1, 2, 2, 0}, {1, 3, 0, 0}, {1, 0, 3, 0}, {1, -1, 0, 0},
            {0, 0, 2, 1001}, {0, 0, 2, -1001}, {0, 2, 0, LOWEST}, {0, 2, 0, HIGHEST}, {1, 0, 1, 1001}};
        for (int[] a : wrong) {
            Bench.refused("mark" + Arrays.toString(a), MakingSentences::marked,
                    d -> d.mark(a[0], a[1], a[2], a[3]), Bench.ARGUMENT);
        }
        int[][] wrongAndFull = {{0, 0, 0, 0}, {0, 3, 0, 0}, {0, 0, 2, 1001}, {2, 0, 2, 0}, {1, 0, 1, 0}};
        for (int[] a : wrongAndFull) {
            Bench.refused("with four marks, mark" + Arrays.toString(a), Desks::fourMarks,
                    d -> d.mark(a[0], a[1], a[2], a[3]), Bench.ARGUMENT);
        }
        Bench.due("the least limit", marked().mark(0, 0, 2, -1000), 1);
        Bench.due("the greatest limit", marked().mark(0, 0, 2, 1000), 1);
    }

    private static void fifthMark() {
        Bench.refused("a fifth", Desks::fourMarks, d -> d.mark(0, 0, 2, 6), Bench.STATE);
        Bench.refused("a fifth that is there", Desks::fourMarks, d -> d.mark(0, 0, 2, 5), Bench.STATE);
        Bench.refused("a fifth after four of refining", Desks::unknownCounter, d -> d.mark(0, 0, 2, 6),
                Bench.STATE);
        Bench.due("a first of another relation", Desks.fourMarks().mark(1, 0, 2, 5), 0);
    }

    private static void sameMark() {
        Bench.refused("the only mark", MakingSentences::marked, d -> d.mark(0, 0, 2, 3), Bench.STATE);
        Supplier<ClauseDesk> three = () -> {
            ClauseDesk desk = marked();
            desk.mark(0, 0, 2, 4);
            desk.mark(0, 0, 2, 5);
            return desk;
        };
        for (int c = 3; c <= 5; c++) {
            int limit = c;
            Bench.refused("one of three", three, d -> d.mark(0, 0, 2, limit), Bench.STATE);
        }
        Bench.refused("a mark of refining", () -> refined(), d -> d.mark(0, 2, 0, 0), Bench.STATE);
        Bench.due("its opposite", marked().mark(0, 2, 0, -4), 1);
        Bench.due("the other way round", marked().mark(0, 2, 0, 3), 1);
        Bench.due("one more or less", three.get().mark(0, 0, 2, 6), 3);
        Bench.due("the same of another relation", marked().mark(1, 0, 2, 3), 0);
    }

    private static ClauseDesk refined() {
        ClauseDesk desk = Desks.counterWithAlarm();
        desk.refine();
        return desk;
    }

    private static void newClauseIsBare() {
        ClauseDesk desk = Desks.relations(1, 1);
        desk.clause(1, 0, 0);
        desk.atom(1, 0, 0);
        desk.atom(1, 0, 0);
        desk.bound(0, 1, -1);
        desk.bound(1, 0, 0);
        desk.clause(0, 0, 0);
        Bench.due("a state without premises", desk.round(), 1);
        Bench.due("by the bare clause", Sight.states(desk, 0), "0:1/1/-1/-1");
        Bench.due("no bound follows", Bench.outcome(desk, d -> d.follows(1, 0, 1)), "NoSuchElementException");
        Bench.due("its first atom", desk.atom(0, 0, 0), 0);
        Bench.due("its first bound", desk.bound(0, 1, 0), 1);
    }

    private static void variablesOfTheHead() {
        for (int y : new int[] {LOWEST, -1, 5, HIGHEST}) {
            ClauseDesk desk = Desks.relations(1);
            desk.mark(0, 0, 2, 0);
            Bench.due("clause(0, 4, " + y + ")", desk.clause(0, 4, y), 0);
            desk.bound(4, 5, 0);
            desk.round();
            Bench.due("is about variable 4", Sight.states(desk, 0), "1:1/0/-1/-1");
            Bench.due("y counts for nothing in a whole search", searchWith(y), searchWith(0));
        }
        ClauseDesk pair = Desks.relations(2);
        pair.mark(0, 0, 1, -1);
        pair.clause(0, 3, 1);
        pair.bound(3, 1, -1);
        pair.round();
        Bench.due("r(v3, v1) if v3 < v1", Sight.states(pair, 0), "1:1/0/-1/-1");
    }

    /** p(x) if x <= 3; q(x) if p(x); it must not be that q(x) and x >= 5: with y for the second variable. */
    private static String searchWith(int y) {
        ClauseDesk desk = Desks.relations(1, 1);
        desk.clause(0, 2, y);
        desk.bound(2, 5, 3);
        desk.clause(1, 3, y);
        desk.atom(0, 3, y);
        desk.clause(-1, y, y);
        desk.atom(1, 4, y);
        desk.bound(5, 4, -5);
        StringBuilder seen = new StringBuilder();
        for (int step = 0; step < 8; step++) {
            seen.append(desk.verify(1)).append(' ').append(desk.check()).append(' ').append(Sight.counts(desk));
            seen.append(' ').append(Sight.tree(desk)).append('\n');
        }
        return seen.append(Sight.marks(desk, 0)).append(Sight.marks(desk, 1)).toString();
    }

    private static void falsehood() {
        int[][] nothing = {{0, 0}, {5, 5}, {-1, -1}, {LOWEST, HIGHEST}};
        for (int[] a : nothing) {
            ClauseDesk desk = new ClauseDesk();
            Bench.due("clause(-1, " + a[0] + ", " + a[1] + ")", desk.clause(-1, a[0], a[1]), 0);
            Bench.due("a round", desk.round(), 0);
            Bench.due("its alarm", Sight.counts(desk), "0 1 0 1 0 1 0");
            Bench.due("which holds", desk.verify(1), 2);
        }
    }

    private static void clauseNumbers() {
        ClauseDesk desk = Desks.relations(1, 2);
        for (int k = 0; k < 12; k++) {
            Bench.due("a clause", desk.clause(k % 3 - 1, k % 5, 4 - k % 5), k);
            Bench.due("how many", desk.state(1), k + 1);
        }
    }

    private static void clauseOfNoRelation() {
        for (int r : new int[] {LOWEST, -2, 2, 3, 4, HIGHEST}) {
            Bench.refused("clause(" + r + ", 0, 0)", MakingSentences::marked, d -> d.clause(r, 0, 0),
                    Bench.ARGUMENT);
        }
        for (int r : new int[] {-2, 4}) {
            Bench.refused("a 13th clause(" + r + ", 0, 0)", () -> Desks.full(3), d -> d.clause(r, 0, 0),
                    Bench.ARGUMENT);
        }
        Bench.due("the last relation", marked().clause(1, 0, 0), 3);
    }

    private static final int[][] WRONG_VARIABLES = {{0, -1, 0}, {0, 5, 0}, {0, LOWEST, 0}, {0, HIGHEST, 0},
        {1, -1, 0}, {1, 5, 0}, {1, 0, -1}, {1, 0, 5}, {1, 4, LOWEST}, {1, 4, HIGHEST}};

    private static void clauseOfNoVariable() {
        for (int[] a : WRONG_VARIABLES) {
            Bench.refused("clause" + Arrays.toString(a), MakingSentences::marked,
                    d -> d.clause(a[0], a[1], a[2]), Bench.ARGUMENT);
            Bench.refused("13th clause" + Arrays.toString(a), () -> Desks.full(3),
                    d -> d.clause(a[0], a[1], a[2]), Bench.ARGUMENT);
        }
        Bench.due("the first and the last", marked().clause(1, 0, 4), 3);
        Bench.due("the last and the first", marked().clause(1, 4, 0), 3);
    }

    private static void thirteenthClause() {
        Bench.refused("of one place", () -> Desks.full(0), d -> d.clause(0, 0, 0), Bench.STATE);
        Bench.refused("of two places", () -> Desks.full(2), d -> d.clause(1, 4, 4), Bench.STATE);
        Bench.refused("FALSE", () -> Desks.full(4), d -> d.clause(-1, 9, 9), Bench.STATE);
    }

    /** Clause 0 has no atom, clause 1 gets two, clause 2 one. */
    private static void atomNumbers() {
        ClauseDesk desk = Desks.relations(1, 2, 1);
        desk.clause(1, 0, 1);
        desk.clause(0, 0, 0);
        Bench.due("the first", desk.atom(1, 4, 3), 0);
        Bench.due("the second", desk.atom(1, 0, 0), 1);
        desk.clause(2, 0, 0);
        Bench.due("the first of the latest", desk.atom(0, 4, -9), 0);
        desk.verify(100);
        Bench.due("clause 0", Sight.states(desk, 1), "0:1/0/-1/-1");
        Bench.due("clause 1", Sight.states(desk, 0), "0:2/1/0/0");
        Bench.due("clause 2", Sight.states(desk, 2), "0:3/2/0/-1");
    }

    private static void wrongAtoms() {
        Supplier<ClauseDesk> noClause = () -> Desks.relations(1, 2);
        for (int[] a : WRONG_VARIABLES) {
            Bench.refused("atom" + Arrays.toString(a), MakingSentences::marked, d -> d.atom(a[0], a[1], a[2]),
                    Bench.ARGUMENT);
            Bench.refused("without clause, atom" + Arrays.toString(a), noClause, d -> d.atom(a[0], a[1], a[2]),
                    Bench.ARGUMENT);
            Bench.refused("third atom" + Arrays.toString(a), () -> Desks.full(3), d -> d.atom(a[0], a[1], a[2]),
                    Bench.ARGUMENT);
        }
        for (int r : new int[] {LOWEST, -2, -1, 4, HIGHEST}) {
            Bench.refused("atom(" + r + ", 0, 0)", MakingSentences::marked, d -> d.atom(r, 0, 0), Bench.ARGUMENT);
            Bench.refused("without clause, atom(" + r + ", 0, 0)", noClause, d -> d.atom(r, 0, 0), Bench.ARGUMENT);
            Bench.refused("third atom(" + r + ", 0, 0)", () -> Desks.full(3), d -> d.atom(r, 0, 0), Bench.ARGUMENT);
        }
        Bench.refused("atom(2, 0, 0) of two relations", MakingSentences::marked, d -> d.atom(2, 0, 0),
                Bench.ARGUMENT);
        for (int y : new int[] {LOWEST, -1, 5, HIGHEST}) {
            Bench.due("atom(0, 4, " + y + ")", marked().atom(0, 4, y), 1);
        }
        Bench.due("atom(1, 4, 0)", marked().atom(1, 4, 0), 1);
    }

    private static void atomWithoutClause() {
        Bench.refused("of one place", () -> Desks.relations(1, 2), d -> d.atom(0, 0, 0), Bench.STATE);
        Bench.refused("of two places", () -> Desks.relations(1, 2), d -> d.atom(1, 4, 4), Bench.STATE);
    }

    private static void thirdAtom() {
        Bench.refused("a third", () -> Desks.full(0), d -> d.atom(0, 0, 0), Bench.STATE);
        Bench.refused("a third like the second", () -> Desks.full(3), d -> d.atom(1, 1, 2), Bench.STATE);
        ClauseDesk desk = Desks.relations(1);
        desk.clause(0, 0, 0);
        desk.atom(0, 0, 0);
        desk.atom(0, 0, 0);
        desk.clause(0, 0, 0);
        Bench.due("the latest has its own two", desk.atom(0, 0, 0) + desk.atom(0, 0, 0), 1);
    }

    private static void boundNumbers() {
        ClauseDesk desk = new ClauseDesk();
        for (int k = 0; k < 2; k++) {
            desk.clause(-1, 0, 0);
            for (int i = 1; i <= 8; i++) {
                int u = k == 0 ? (i - 1) % 5 : 5;
                int v = k == 0 ? 5 : (i - 1) % 5;
                Bench.due("a bound", desk.bound(u, v, 100 - i), i);
            }
        }
        for (int x = 0; x < 5; x++) {
            int least = x < 3 ? 94 - x : 99 - x;
            Bench.due("of clause 0, v" + x, desk.follows(0, x, 5), least);
            Bench.due("of clause 1, v" + x, desk.follows(1, 5, x), least);
        }
    }

    private static void wrongBounds() {
        int[][] wrong = {{0, 0, 0}, {4, 4, 0}, {5, 5, 0}, {6, 0, 0}, {0, 6, 0}, {-1, 0, 0}, {0, -1, 0},
            {LOWEST, 0, 0}, {0, HIGHEST, 0}, {0, 1, 1001}, {0, 1, -1001}, {0, 5, LOWEST}, {5, 0, HIGHEST}};
        for (int[] a : wrong) {
            Bench.refused("bound" + Arrays.toString(a), Desks::counterWithAlarm, d -> d.bound(a[0], a[1], a[2]),
                    Bench.ARGUMENT);
            Bench.refused("without clause, bound" + Arrays.toString(a), ClauseDesk::new,
                    d -> d.bound(a[0], a[1], a[2]), Bench.ARGUMENT);
            Bench.refused("ninth bound" + Arrays.toString(a), () -> Desks.full(3),
                    d -> d.bound(a[0], a[1], a[2]), Bench.ARGUMENT);
        }
        Bench.due("the first and the last", Desks.counterWithAlarm().bound(0, 5, 1000), 2);
        Bench.due("the last and the first", Desks.counterWithAlarm().bound(5, 0, -1000), 2);
    }

    private static void boundWithoutClause() {
        Bench.refused("with relations", () -> Desks.relations(1, 2), d -> d.bound(0, 1, 0), Bench.STATE);
        Bench.refused("without", ClauseDesk::new, d -> d.bound(5, 4, -1000), Bench.STATE);
    }

    private static void ninthBound() {
        Bench.refused("a ninth", () -> Desks.full(0), d -> d.bound(0, 1, 0), Bench.STATE);
        Bench.refused("a ninth that would break", () -> Desks.full(3), d -> d.bound(0, 5, -1000), Bench.STATE);
        Supplier<ClauseDesk> broken = () -> {
            ClauseDesk desk = new ClauseDesk();
            desk.clause(-1, 0, 0);
            for (int i = 0; i < 8; i++) {
                desk.bound(i % 2 == 0 ? 0 : 1, i % 2 == 0 ? 1 : 0, -1);
            }
            return desk;
        };
        Bench.refused("a ninth of eight that break", broken, d -> d.bound(0, 1, 0), Bench.STATE);
        ClauseDesk next = broken.get();
        next.clause(-1, 0, 0);
        Bench.due("the latest has its own eight", next.bound(0, 1, 0), 1);
    }
}
