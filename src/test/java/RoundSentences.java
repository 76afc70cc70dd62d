/** The sentences under "Terms" about rounds, alarms and fresh starts, and the test that holds to each. */
final class RoundSentences {
    private static final String TERMS = "Terms";

    private RoundSentences() {
    }

    static void all() {
        Bench.holds(TERMS, "A STATE is a cube of a relation that was REACHED; it has a HEIGHT, 1, 2, .., a clause, "
                + "and for each atom of this clause's body a state of the atom's relation, its PREMISES.",
                RoundSentences::states);
        Bench.holds(TERMS, "A ROUND, the n-th since the last FRESH START, reaches all cubes that were not reached, "
                + "for which there are a clause with this relation as its head,", RoundSentences::allCubes);
        Bench.holds(TERMS, "and for its atoms states that were reached in rounds before,",
                RoundSentences::roundsBefore);
        Bench.holds(TERMS, "so that its bounds, what the states allow for the atoms' variables, and what the cube "
                + "allows for the head's, hold together.", RoundSentences::whatMustHold);
        Bench.holds(TERMS, "They get the height n;", RoundSentences::heights);
        Bench.holds(TERMS, "the clause is the least one that does,", RoundSentences::leastClause);
        Bench.holds(TERMS, "and the premises the least with it: that of the first atom by its cube, then that of "
                + "the second.", RoundSentences::leastPremises);
        Bench.holds(TERMS, "If a clause with the head FALSE, and states reached in rounds before for its atoms, so "
                + "that its bounds and what they allow hold together, can be found, there is an ALARM in this round:",
                RoundSentences::alarms);
        Bench.holds(TERMS, "the least such clause,", RoundSentences::leastAlarm);
        Bench.holds(TERMS, "and its least premises likewise;", RoundSentences::leastPremisesOfAlarm);
        Bench.holds(TERMS, "then nothing is reached in the round.", RoundSentences::nothingBesideAlarm);
        Bench.holds(TERMS, "A round in which nothing is reached and no alarm is: the search has CLOSED.",
                RoundSentences::closing);
        Bench.holds(TERMS, "A FRESH START: no states, rounds or alarm.", RoundSentences::freshStart);
        Bench.holds(TERMS, "Making a relation, clause, atom, bound or mark is a fresh start, and the verdict is "
                + "none.", RoundSentences::makingIsAFreshStart);
    }

    /** Clauses with no, one and two atoms; each state names as many premises, which are lower. */
    private static void states() {
        ClauseDesk desk = Desks.ladder();
        Bench.due("before a round", Sight.states(desk, 0), "");
        desk.verify(100);
        Bench.due("p", Sight.states(desk, 0), "0:5/1/8/8 8:4/1/12/12 12:3/1/14/14 14:2/1/15/15 15:1/0/-1/-1");
        Bench.due("q", Sight.states(desk, 1), "0:4/2/12/-1");
        Bench.due("s", Sight.states(desk, 2), "0:5/3/0/-1");
    }

    private static void allCubes() {
        ClauseDesk desk = Desks.relations(1, 2, 1);
        desk.mark(0, 0, 2, 0);
        desk.mark(0, 0, 2, 5);
        desk.mark(1, 0, 1, 0);
        desk.clause(1, 0, 1);
        desk.clause(0, 0, 0);
        desk.clause(0, 1, 0);
        Bench.due("three cubes of one and two of another", desk.round(), 5);
        Bench.due("none without a clause", Sight.states(desk, 2), "");
        Bench.due("those that were reached are not reached again", desk.round(), 0);
        Bench.due("they stay as they are", Sight.states(desk, 1), "0:1/0/-1/-1 1:1/0/-1/-1");
        desk.start();
        Bench.due("after a fresh start they are", desk.round(), 5);
        Bench.due("with the height 1 again", desk.cube(0, 0, 0), 1);
    }

    /** Whether the clause that needs the other comes before or after it, it waits for a round. */
    private static void roundsBefore() {
        for (int order = 0; order < 2; order++) {
            ClauseDesk desk = Desks.relations(1, 1);
            for (int k = 0; k < 2; k++) {
                desk.clause(k == order ? 0 : 1, 0, 0);
                if (k != order) {
                    desk.atom(0, 0, 0);
                }
            }
            Bench.due("the first round", desk.round(), 1);
            Bench.due("only the premise", Sight.states(desk, 0) + Sight.states(desk, 1), "0:1/" + order + "/-1/-1");
            Bench.due("the second round", desk.round(), 1);
            Bench.due("what needs it", Sight.states(desk, 1), "0:2/" + (1 - order) + "/0/-1");
        }
        ClauseDesk own = Desks.relations(1);
        own.clause(0, 0, 0);
        own.atom(0, 0, 0);
        Bench.due("p(x) if p(x) begins nowhere", own.round(), 0);
    }

    /** r(y) if p(x) and y = x + step, p(x) for x <= 0 alone: each of the three parts can forbid it. */
    private static void whatMustHold() {
        Bench.due("r's y <= 0 and y >= 1", reachedBeyond(1, 0), "0:2/1/1/-1 1:2/1/1/-1");
        Bench.due("what the state allows: y is at most 0", reachedBeyond(0, 0), "1:2/1/1/-1");
        Bench.due("what the bounds allow: x is at least 0", reachedBeyond(1, 1), "0:2/1/1/-1");
        Bench.due("what both allow together", reachedBeyond(1, 2), "");
        ClauseDesk two = Desks.relations(2);
        two.mark(0, 0, 1, -1);
        two.mark(0, 0, 1, -2);
        two.clause(0, 0, 1);
        Desks.equation(two, 1, 0, 1);
        two.clause(0, 3, 1);
        two.atom(0, 3, 4);
        two.atom(0, 4, 1);
        two.verify(3);
        Bench.due("r(x, x + 1), r(x, z) if r(x, y), r(y, z)", Sight.states(two, 0), "1:1/0/-1/-1 3:2/1/1/1");
    }

    /** The limit 1 asks for x >= 0, 2 for x >= 1. */
    private static String reachedBeyond(int step, int limit) {
        ClauseDesk desk = Desks.relations(1, 1);
        desk.mark(0, 0, 2, 0);
        desk.mark(1, 0, 2, 0);
        desk.clause(0, 0, 0);
        desk.bound(0, 5, 0);
        desk.clause(1, 1, 0);
        desk.atom(0, 0, 0);
        Desks.equation(desk, 1, 0, step);
        if (limit > 0) {
            desk.bound(5, 0, 1 - limit);
        }
        desk.verify(2);
        return Sight.states(desk, 1);
    }

    private static void heights() {
        ClauseDesk desk = Desks.ladder();
        int[] cubes = {15, 14, 12, 8, 0};
        int[] reached = {1, 1, 1, 2, 2};
        for (int n = 1; n <= 5; n++) {
            Bench.due("round " + n, desk.round(), reached[n - 1]);
            Bench.due("the height of what it reached", desk.cube(0, cubes[n - 1], 0), n);
        }
        Bench.due("round 6", desk.round(), 0);
        Bench.due("the heights stay", desk.cube(0, 15, 0), 1);
    }

    private static void leastClause() {
        ClauseDesk desk = Desks.relations(1, 1, 1);
        desk.clause(1, 0, 0);
        desk.atom(0, 0, 0);
        desk.clause(0, 0, 0);
        desk.clause(1, 0, 0);
        desk.clause(2, 0, 0);
        desk.atom(0, 0, 0);
        desk.clause(2, 0, 0);
        desk.atom(1, 0, 0);
        desk.clause(0, 0, 0);
        desk.verify(3);
        Bench.due("of two in one round the first", Sight.states(desk, 0), "0:1/1/-1/-1");
        Bench.due("a lesser one that comes rounds later counts no more", Sight.states(desk, 1), "0:1/2/-1/-1");
        Bench.due("of two with atoms the first", Sight.states(desk, 2), "0:2/3/0/-1");
        Bench.due("clause 0 can be it", reasonOfLeast(), "0:2/0/1/-1");
    }

    /** Clause 0 needs the premise 1, clause 2 could do with the premise 0. */
    private static String reasonOfLeast() {
        ClauseDesk desk = Desks.relations(1, 1);
        desk.mark(0, 0, 2, 0);
        desk.clause(1, 0, 0);
        desk.atom(0, 0, 0);
        desk.bound(0, 5, 0);
        desk.clause(0, 0, 0);
        desk.clause(1, 0, 0);
        desk.atom(0, 0, 0);
        desk.verify(2);
        return Sight.states(desk, 1);
    }

    private static void leastPremises() {
        ClauseDesk desk = Desks.relations(1, 1);
        desk.mark(0, 0, 2, 0);
        desk.mark(1, 0, 2, 0);
        desk.clause(0, 0, 0);
        desk.clause(1, 2, 0);
        desk.atom(0, 0, 0);
        desk.atom(0, 1, 0);
        desk.bound(0, 1, -1);
        Desks.equation(desk, 2, 0, 0);
        desk.verify(2);
        Bench.due("each cube with its least", Sight.states(desk, 1), "0:2/1/0/0 1:2/1/1/0");
        Bench.due("the first atom's comes first", premisesOfTwo(), "0:2/2/0/1");
        Bench.due("the next one by its second atom", premisesOfEach(1), "0:2/1/0/0 1:2/1/0/1");
        Bench.due("the next one by its first atom", premisesOfEach(0), "0:2/1/0/0 1:2/1/1/0");
        ClauseDesk unlike = Desks.relations(1, 1, 1);
        Desks.markSteps(unlike, 1);
        unlike.clause(0, 0, 0);
        unlike.clause(1, 0, 0);
        Desks.equation(unlike, 0, 5, 0);
        unlike.clause(2, 0, 0);
        unlike.atom(0, 0, 0);
        unlike.atom(1, 1, 0);
        unlike.clause(2, 0, 0);
        unlike.atom(1, 1, 0);
        unlike.atom(0, 0, 0);
        unlike.verify(2);
        Bench.due("one of many cubes beside one of one", Sight.states(unlike, 2), "0:2/2/0/15");
    }

    /** p(x) has both cubes of x <= 0; q(z) if p(v0), p(v1) and z is one of these two. */
    private static String premisesOfEach(int variable) {
        ClauseDesk desk = Desks.relations(1, 1);
        desk.mark(0, 0, 2, 0);
        desk.mark(1, 0, 2, 0);
        desk.clause(0, 0, 0);
        desk.clause(1, variable, 0);
        desk.atom(0, 0, 0);
        desk.atom(0, 1, 0);
        desk.verify(2);
        return Sight.states(desk, 1);
    }

    /** p: cube 0 is x >= 1; s: cube 0 is y <= -1; with x <= y the pairs 0, 1 and 1, 0 hold, 0, 0 does not. */
    private static String premisesOfTwo() {
        ClauseDesk desk = Desks.relations(1, 1, 1);
        desk.mark(0, 0, 2, 0);
        desk.mark(1, 2, 0, 0);
        desk.clause(0, 0, 0);
        desk.clause(1, 0, 0);
        desk.clause(2, 0, 0);
        desk.atom(0, 0, 0);
        desk.atom(1, 1, 0);
        desk.bound(0, 1, 0);
        desk.verify(2);
        return Sight.states(desk, 2);
    }

    private static void alarms() {
        ClauseDesk bare = new ClauseDesk();
        bare.clause(-1, 0, 0);
        bare.round();
        Bench.due("FALSE without atoms, in the first round", Sight.counts(bare), "0 1 0 1 0 1 0");
        ClauseDesk broken = new ClauseDesk();
        broken.clause(-1, 0, 0);
        Desks.equation(broken, 0, 1, 1);
        broken.bound(0, 1, 0);
        broken.round();
        Bench.due("bounds that do not hold together", Sight.counts(broken), "0 1 1 1 -1 0 0");
        ClauseDesk later = Desks.relations(1);
        later.clause(-1, 0, 0);
        later.atom(0, 0, 0);
        later.clause(0, 0, 0);
        Bench.due("no state of a round before", later.round(), 1);
        Bench.due("so no alarm yet", later.state(4), -1);
        later.round();
        Bench.due("but in the next round", Sight.counts(later), "1 2 0 2 0 2 0");
        Bench.due("x >= 10 where the state has x <= 10", counterWithMark(10), 2);
        Bench.due("x >= 11 where the state has x <= 10", counterWithMark(11), -1);
        ClauseDesk second = secondAtomMissing();
        Bench.due("a second atom without states", second.verify(3), 1);
    }

    private static int counterWithMark(int bad) {
        ClauseDesk desk = Desks.counter(9, bad);
        desk.mark(0, 0, 2, 10);
        desk.verify(2);
        return desk.state(4);
    }

    private static ClauseDesk secondAtomMissing() {
        ClauseDesk desk = Desks.relations(1, 1);
        desk.clause(0, 0, 0);
        desk.clause(-1, 0, 0);
        desk.atom(0, 0, 0);
        desk.atom(1, 0, 0);
        return desk;
    }

    private static void leastAlarm() {
        ClauseDesk desk = Desks.relations(1);
        desk.clause(0, 0, 0);
        desk.clause(-1, 0, 0);
        desk.bound(0, 1, -1);
        desk.bound(1, 0, 0);
        desk.clause(-1, 0, 0);
        desk.atom(0, 0, 0);
        desk.clause(-1, 0, 0);
        desk.clause(-1, 0, 0);
        desk.round();
        Bench.due("1 is broken, 2 has no state yet", desk.state(4), 3);
        Bench.due("its root", Sight.tree(desk), "3/-1/-1");
        ClauseDesk last = Desks.relations(1);
        for (int k = 0; k < 11; k++) {
            last.clause(0, 0, 0);
        }
        last.clause(-1, 0, 0);
        last.round();
        Bench.due("clause 11 can be it", last.state(4), 11);
    }

    private static void leastPremisesOfAlarm() {
        ClauseDesk desk = Desks.relations(1);
        desk.mark(0, 0, 2, 0);
        desk.mark(0, 0, 2, 9);
        desk.clause(0, 0, 0);
        desk.clause(-1, 0, 0);
        desk.atom(0, 0, 0);
        desk.atom(0, 1, 0);
        desk.bound(0, 1, -5);
        desk.bound(0, 5, 9);
        Bench.due("cubes 0, 2 and 3", desk.round(), 3);
        desk.round();
        Bench.due("x <= 9 forbids 0, then y is of any size", Sight.tree(desk), "1/-1/-1 0/0/2 0/0/0");
        ClauseDesk two = Desks.relations(1, 1);
        two.mark(0, 0, 2, 0);
        two.mark(1, 2, 0, 0);
        two.clause(0, 0, 0);
        two.clause(1, 0, 0);
        two.clause(-1, 0, 0);
        two.atom(0, 0, 0);
        two.atom(1, 1, 0);
        two.bound(0, 1, 0);
        two.verify(2);
        Bench.due("0 and 1 come before 1 and 0", Sight.tree(two), "2/-1/-1 0/0/0 1/0/1");
    }

    private static void nothingBesideAlarm() {
        ClauseDesk first = Desks.relations(1);
        first.clause(0, 0, 0);
        first.clause(-1, 0, 0);
        Bench.due("a first round with an alarm", first.round(), 0);
        Bench.due("reached nothing", Sight.states(first, 0), "");
        Bench.due("and counts", first.state(3), 1);
        ClauseDesk later = Desks.counter(9, 0);
        later.mark(0, 0, 2, 0);
        later.round();
        Bench.due("a later one", later.round(), 0);
        Bench.due("keeps what there was", Sight.states(later, 0), "1:1/0/-1/-1");
        Bench.due("no verdict comes of it", Sight.counts(later), "1 3 0 2 2 2 0");
    }

    private static void closing() {
        ClauseDesk empty = new ClauseDesk();
        Bench.due("a desk with nothing", empty.round(), 0);
        Bench.due("closes at once", Sight.counts(empty), "0 0 1 1 -1 0 0");
        ClauseDesk desk = Desks.counter(9, 11);
        desk.mark(0, 0, 2, 10);
        Bench.due("a state", desk.round(), 1);
        Bench.due("is no end", desk.state(2), 0);
        Bench.due("nothing", desk.round(), 0);
        Bench.due("is one", Sight.counts(desk), "1 3 1 2 -1 0 0");
        Bench.due("nothing, but an alarm, is none", Desks.counterWithAlarm().state(2), 0);
    }

    private static void freshStart() {
        for (int number = 0; number < 6; number++) {
            ClauseDesk desk = Desks.inSituation(number);
            String size = desk.state(0) + " " + desk.state(1);
            int refinings = desk.state(6);
            desk.start();
            Bench.due("situation " + number, Sight.counts(desk), size + " 0 0 -1 0 " + refinings);
            Bench.due("no states", number == 0 ? "" : Sight.states(desk, 0), "");
            Bench.due("no tree", Bench.outcome(desk, d -> d.node(0, 0)), "NoSuchElementException");
            Bench.due("the first round again", desk.round(), number == 0 ? 0 : 1);
            Bench.due("is the first", desk.state(3), 1);
        }
    }

    private static void makingIsAFreshStart() {
        Bench.Call[] makers = {d -> d.relation(1), d -> d.clause(-1, 0, 0), d -> d.atom(0, 0, 0),
            d -> d.bound(0, 1, 0), d -> d.mark(1, 0, 2, 77)};
        String[] before = {"0 1 -1 0", "0 2 2 2", "1 2 -1 0", "2 3 2 3", "3 4 2 4"};
        int[] steps = {1, 2, 100, 100, 100};
        for (int i = 0; i < makers.length * 5; i++) {
            int number = i % 5;
            ClauseDesk desk = Desks.inSituation(1 + number);
            // A second relation, so that there is room for a mark when the first one's are full.
            desk.relation(1);
            desk.verify(steps[number]);
            Bench.due("before it is made", verdictRoundsAlarmNodes(desk), before[number]);
            makers[i / 5].on(desk);
            Bench.due("maker " + i / 5 + " there", verdictRoundsAlarmNodes(desk), "0 0 -1 0");
            Bench.due("states", Sight.states(desk, 0), "");
        }
    }

    private static String verdictRoundsAlarmNodes(ClauseDesk desk) {
        return desk.state(2) + " " + desk.state(3) + " " + desk.state(4) + " " + desk.state(5);
    }
}
