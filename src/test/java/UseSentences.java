/** The sentences under "What it is", and the test that holds to each. */
final class UseSentences {
    private static final String USE = "What it is";
    private static final int MOST_CALLS = 512;
    private static final int SAFE = 1;
    private static final int UNSAFE = 2;
    private static final int UNKNOWN = 3;

    private UseSentences() {
    }

    static void all() {
        Bench.holds(USE, "A desk for clauses about whole numbers: relations that are the least ones to obey some "
                + "clauses are looked for from above, by what a few bounds on their arguments can tell apart;",
                UseSentences::fromAbove);
        Bench.holds(USE, "whether something that must not be follows from them is answered, with a proof or a "
                + "derivation;", UseSentences::proofOrDerivation);
        Bench.holds(USE, "a derivation that does not hold gives new bounds, and one tries again.",
                UseSentences::tryingAgain);
        Bench.holds(USE, "An object is used for at most 512 calls after it has been made;", UseSentences::manyCalls);
        Bench.holds(USE, "what later calls answer is free.", UseSentences::laterCalls);
    }

    /** The least p has 0 .. 10: whatever the marks, the cubes of these are reached, and hardly any others. */
    private static void fromAbove() {
        Bench.due("no marks tell nothing apart", cubesReached(), "0:1/0/-1/-1");
        Bench.due("x <= 10 is told apart from x >= 11", cubesReached(10), "1:1/0/-1/-1");
        Bench.due("x <= 9 lets x = 10 in, and all above", cubesReached(9), "0:2/1/1/-1 1:1/0/-1/-1");
        Bench.due("x <= 11 is more than there is", cubesReached(11), "1:1/0/-1/-1");
        Bench.due("what is below 0 is no more in it", cubesReached(-1, 10), "2:1/0/-1/-1");
        Bench.due("1, 2 .. 10 and nothing above", cubesReached(0, 1, 10, 11),
                "12:3/1/14/-1 14:2/1/15/-1 15:1/0/-1/-1");
    }

    /** The states of p by the marks x <= c, when the search has closed. */
    private static String cubesReached(int... limits) {
        ClauseDesk desk = Desks.counter(9, 11);
        // What must not be never is then, so that no alarm stops the search.
        desk.bound(0, 5, 10);
        for (int c : limits) {
            desk.mark(0, 0, 2, c);
        }
        Bench.due("closed", desk.verify(100), SAFE);
        return Sight.states(desk, 0);
    }

    private static void proofOrDerivation() {
        ClauseDesk safe = Desks.safeCounter();
        Bench.due("p(11) does not follow", safe.state(2), SAFE);
        Bench.due("the states prove it: every clause holds for them", safe.check(), -1);
        Bench.due("without a derivation", safe.state(5), 0);
        ClauseDesk unsafe = Desks.unsafeCounter();
        Bench.due("p(1) follows", unsafe.state(2), UNSAFE);
        Bench.due("by p(0), p(1)", Sight.tree(unsafe), "2/-1/-1 1/0/2 0/1/3");
        ClauseDesk ten = Desks.counter(9, 10);
        ten.mark(0, 0, 2, 10);
        Bench.due("p(10) follows, though four marks do not show it", ten.verify(100), UNKNOWN);
    }

    private static void tryingAgain() {
        ClauseDesk desk = Desks.counter(0, 2);
        Bench.due("a round, an alarm, new bounds", desk.verify(3), 0);
        Bench.due("of p(0), which is not p(2)", Sight.marks(desk, 0), "0-2<=0 2-0<=0");
        Bench.due("three more steps and new bounds", desk.verify(4), 0);
        Bench.due("of p(1), which is not p(2)", Sight.marks(desk, 0), "0-2<=0 2-0<=0 0-2<=1 2-0<=-1");
        Bench.due("these are enough", desk.verify(100), SAFE);
        Bench.due("refined twice", Sight.counts(desk), "1 3 1 3 -1 0 2");
        Bench.due("and proved", desk.check(), -1);
    }

    /** The dearest calls, over and over: the 512th answers like the first, and so does a refused one. */
    private static void manyCalls() {
        ClauseDesk desk = Desks.counter(9, 11);
        int calls = 12;
        desk.verify(100);
        calls++;
        while (calls + 4 <= MOST_CALLS - 1) {
            desk.start();
            Bench.due("verify, call " + (calls + 2), desk.verify(100), UNKNOWN);
            Bench.due("check, call " + (calls + 3), desk.check(), 2);
            Bench.due("a wrong call, call " + (calls + 4), Bench.outcome(desk, d -> d.node(4, 0)),
                    "NoSuchElementException");
            calls += 4;
        }
        while (calls < MOST_CALLS) {
            calls++;
            Bench.due("the last node, call " + calls, desk.node(3, 2), 7);
        }
    }

    /** Their answers are free, but they end, and throw nothing that the document does not name. */
    private static void laterCalls() {
        ClauseDesk desk = Desks.counter(9, 11);
        for (int calls = 12; calls < MOST_CALLS; calls++) {
            desk.state(0);
        }
        Bench.Call[] later = {d -> d.relation(1), d -> d.mark(0, 0, 2, 3), d -> d.clause(0, 0, 0),
            d -> d.atom(0, 0, 0), d -> d.bound(0, 1, 2), ClauseDesk::round, ClauseDesk::refine, d -> d.verify(100),
            ClauseDesk::check, d -> d.follows(0, 0, 1), d -> d.state(2), d -> d.shown(0, 0, 0),
            d -> d.cube(0, 0, 0), d -> d.node(0, 0)};
        String named = "IllegalArgumentException IllegalStateException ArithmeticException NoSuchElementException";
        for (int i = 0; i < later.length; i++) {
            String outcome = Bench.outcome(desk, later[i]);
            Bench.due("later call " + i + ", " + outcome,
                    outcome.matches("-?\\d+") || named.contains(outcome) ? "ends" : "breaks", "ends");
        }
    }
}
