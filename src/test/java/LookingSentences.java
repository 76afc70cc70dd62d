import java.util.Arrays;

/** The sentences of promises 12 to 16, and the test that holds to each. */
final class LookingSentences {
    private static final String FOLLOWS = "Promise 12: follows";
    private static final String STATE = "Promise 13: state";
    private static final String SHOWN = "Promise 14: shown";
    private static final String CUBE = "Promise 15: cube";
    private static final String NODE = "Promise 16: node";
    private static final int LOWEST = Integer.MIN_VALUE;
    private static final int HIGHEST = Integer.MAX_VALUE;

    private LookingSentences() {
    }

    static void all() {
        Bench.holds(FOLLOWS, "The least c so that u - v <= c follows from the bounds of clause k (u, v as in bound).",
                LookingSentences::leastThatFollows);
        Bench.holds(FOLLOWS, "IllegalArgumentException when there is no such clause,",
                LookingSentences::followsOfNoClause);
        Bench.holds(FOLLOWS, "or u and v are not two different ones of 0 .. 5;", LookingSentences::followsOfNoPair);
        Bench.holds(FOLLOWS, "else ArithmeticException when its bounds do not hold together;",
                LookingSentences::followsOfBroken);
        Bench.holds(FOLLOWS, "else NoSuchElementException when there is no such c.", LookingSentences::followsFree);
        Bench.holds(STATE, "what = 0 how many relations, 1 clauses,", LookingSentences::howMany);
        Bench.holds(STATE, "2 the verdict,", LookingSentences::verdict);
        Bench.holds(STATE, "3 rounds since the last fresh start,", LookingSentences::rounds);
        Bench.holds(STATE, "4 the clause of the alarm (NONE without one),", LookingSentences::alarmClause);
        Bench.holds(STATE, "5 how many nodes the tree of the alarm has (0 without one; 41 when they are more than "
                + "40),", LookingSentences::nodeCount);
        Bench.holds(STATE, "6 how many times it was refined in all with new marks.", LookingSentences::refinings);
        Bench.holds(STATE, "NONE for another what.", LookingSentences::stateOfNothing);
        Bench.holds(SHOWN, "Mark k of relation r: what = 0 u, 1 v, 2 c, as in mark.", LookingSentences::marks);
        Bench.holds(SHOWN, "IllegalArgumentException when there is no such relation",
                LookingSentences::shownOfNoRelation);
        Bench.holds(SHOWN, "or what is none of these;", LookingSentences::shownOfNothing);
        Bench.holds(SHOWN, "else NoSuchElementException when there is no such mark.",
                LookingSentences::shownOfNoMark);
        Bench.holds(CUBE, "Of a cube of relation r: what = 0 its height (0 when it is not reached),",
                LookingSentences::heights);
        Bench.holds(CUBE, "1 its clause, 2 and 3 the cubes of its premises (NONE when it is not reached, or has no "
                + "such one);", LookingSentences::reasons);
        Bench.holds(CUBE, "4 whether it allows any numbers.", LookingSentences::allowing);
        Bench.holds(CUBE, "IllegalArgumentException when there is no such relation",
                LookingSentences::cubeOfNoRelation);
        Bench.holds(CUBE, "or cube,", LookingSentences::noSuchCube);
        Bench.holds(CUBE, "or what is none of these.", LookingSentences::cubeOfNothing);
        Bench.holds(NODE, "Node k of the tree of the alarm: what = 0 its clause, 1 its parent (NONE for the root), "
                + "2 its cube (NONE for the root).", LookingSentences::nodes);
        Bench.holds(NODE, "IllegalArgumentException when what is none of these;", LookingSentences::nodeOfNothing);
        Bench.holds(NODE, "else NoSuchElementException when there is no such node,", LookingSentences::noSuchNode);
        Bench.holds(NODE, "or there are more than 40.", LookingSentences::tooManyNodes);
    }

    private static void leastThatFollows() {
        int[][] dues = {{0, 0, 1, 1000}, {0, 0, 2, 2000}, {0, 0, 3, 900}, {0, 1, 3, 2000}, {0, 0, 5, 893},
            {0, 1, 4, 1995}, {0, 3, 4, -5}, {0, 5, 4, 2}, {2, 0, 1, -1}, {2, 1, 0, 1}};
        for (int[] a : dues) {
            Bench.due("follows" + Arrays.toString(a), Desks.threeClauses().follows(a[0], a[1], a[2]), a[3]);
        }
        for (int c : new int[] {1000, -1000}) {
            ClauseDesk chain = Desks.relations(1);
            chain.clause(0, 0, 0);
            for (int x = 0; x < 5; x++) {
                chain.bound(x, x + 1, c);
            }
            for (int x = 0; x < 5; x++) {
                Bench.due("a sum of " + (x + 1), chain.follows(0, 0, x + 1), c * (x + 1));
            }
            Bench.due("the last one", chain.follows(0, 4, 5), c);
            chain.bound(0, 5, c);
            Bench.due("a shorter way", chain.follows(0, 0, 5), c > 0 ? c : 5 * c);
            chain.atom(0, 4, 0);
            chain.mark(0, 0, 2, -1000);
            Bench.due("atoms and marks count for nothing", chain.follows(0, 4, 5), c);
        }
    }

    private static void followsOfNoClause() {
        for (int k : new int[] {LOWEST, -1, 3, 11, 12, HIGHEST}) {
            Bench.refused("follows(" + k + ", 0, 1)", Desks::threeClauses, d -> d.follows(k, 0, 1), Bench.ARGUMENT);
        }
        Bench.refused("follows(0, 0, 1) of none", ClauseDesk::new, d -> d.follows(0, 0, 1), Bench.ARGUMENT);
        Bench.refused("follows(12, 0, 1) of twelve", () -> Desks.full(3), d -> d.follows(12, 0, 1), Bench.ARGUMENT);
        Bench.due("the last of twelve", Desks.full(3).follows(11, 5, 0), -1);
    }

    private static void followsOfNoPair() {
        int[][] wrong = {{0, 0}, {3, 3}, {5, 5}, {6, 0}, {0, 6}, {-1, 0}, {0, -1}, {LOWEST, 0}, {0, HIGHEST}};
        for (int[] a : wrong) {
            for (int i = 0; i < 3; i++) {
                int k = i;
                Bench.refused("clause " + k + ", follows" + Arrays.toString(a), Desks::threeClauses,
                        d -> d.follows(k, a[0], a[1]), Bench.ARGUMENT);
            }
        }
        Bench.due("the last and one before it", Desks.threeClauses().follows(0, 5, 4), 2);
    }

    private static void followsOfBroken() {
        Bench.refused("what is bounded", Desks::threeClauses, d -> d.follows(1, 0, 1), Bench.ARITHMETIC);
        Bench.refused("what is not bounded", Desks::threeClauses, d -> d.follows(1, 3, 4), Bench.ARITHMETIC);
        ClauseDesk desk = Desks.threeClauses();
        desk.bound(3, 4, -1);
        desk.bound(4, 3, 1);
        Bench.due("a sum of 0", desk.follows(2, 0, 1), -1);
        desk.bound(4, 3, 0);
        Bench.due("a sum of -1 elsewhere", Bench.outcome(desk, d -> d.follows(2, 0, 1)), "ArithmeticException");
        Bench.due("in another clause", desk.follows(0, 0, 1), 1000);
        desk.bound(0, 1, 5);
        Bench.due("whatever comes after", Bench.outcome(desk, d -> d.follows(2, 0, 1)), "ArithmeticException");
    }

    private static void followsFree() {
        Bench.refused("the way back", Desks::threeClauses, d -> d.follows(0, 1, 0), Bench.NOT_FOUND);
        Bench.refused("elsewhere", Desks::threeClauses, d -> d.follows(2, 0, 5), Bench.NOT_FOUND);
        Bench.refused("without bounds", () -> withBareClause(), d -> d.follows(0, 0, 5), Bench.NOT_FOUND);
        ClauseDesk desk = Desks.relations(1);
        desk.clause(0, 0, 0);
        desk.bound(0, 1, 0);
        desk.bound(2, 1, 0);
        Bench.due("two below a third", Bench.outcome(desk, d -> d.follows(0, 0, 2)), "NoSuchElementException");
        desk.bound(1, 2, 3);
        Bench.due("and a link", Bench.outcome(desk, d -> d.follows(0, 0, 2)), "3");
    }

    private static ClauseDesk withBareClause() {
        ClauseDesk desk = Desks.relations(1);
        desk.clause(0, 0, 0);
        return desk;
    }

    private static void howMany() {
        ClauseDesk desk = new ClauseDesk();
        for (int n = 0; n < 4; n++) {
            Bench.due("relations", desk.state(0), n);
            desk.relation(1);
        }
        for (int n = 0; n < 12; n++) {
            Bench.due("clauses", desk.state(1), n);
            desk.clause(-1, 0, 0);
        }
        Bench.due("all", Sight.counts(desk), "4 12 0 0 -1 0 0");
    }

    private static void verdict() {
        int[] verdicts = {0, 0, 0, 1, 2, 3};
        for (int number = 0; number < 6; number++) {
            Bench.due("situation " + number, Desks.inSituation(number).state(2), verdicts[number]);
        }
        Bench.due("none after refining with marks", refined().state(2), 0);
    }

    private static ClauseDesk refined() {
        ClauseDesk desk = Desks.counterWithAlarm();
        desk.refine();
        return desk;
    }

    private static void rounds() {
        ClauseDesk desk = Desks.ladder();
        for (int n = 0; n < 6; n++) {
            Bench.due("before each round", desk.state(3), n);
            desk.round();
        }
        Bench.due("the one that closes counts", desk.state(3), 6);
        Bench.due("so does one with an alarm", Desks.counterWithAlarm().state(3), 2);
        Bench.due("refining is none", Desks.unsafeCounter().state(3), 3);
        Bench.due("and with new marks a fresh start", refined().state(3), 0);
        desk.start();
        Bench.due("start is one", desk.state(3), 0);
    }

    private static void alarmClause() {
        int[] alarms = {-1, -1, 2, -1, 2, 2};
        for (int number = 0; number < 6; number++) {
            Bench.due("situation " + number, Desks.inSituation(number).state(4), alarms[number]);
        }
        Bench.due("after refining with marks", refined().state(4), -1);
        Bench.due("the last clause of twelve", Desks.full(3).state(4), 11);
        ClauseDesk first = new ClauseDesk();
        first.clause(-1, 0, 0);
        Bench.due("no round yet", first.state(4), -1);
        first.round();
        Bench.due("the first clause", first.state(4), 0);
    }

    private static void nodeCount() {
        int[] nodes = {0, 0, 2, 0, 3, 4};
        for (int number = 0; number < 6; number++) {
            Bench.due("situation " + number, Desks.inSituation(number).state(5), nodes[number]);
        }
        Bench.due("forty", Desks.ladderWithAlarm(1, 2).state(5), 40);
        Bench.due("forty-one", Desks.ladderWithAlarm(2, 2).state(5), 41);
        Bench.due("very many", Desks.hugeTree().state(5), 41);
        ClauseDesk desk = Desks.ladderWithAlarm(2, 2);
        desk.refine();
        Bench.due("forty-one, UNKNOWN", desk.state(5), 41);
        desk.start();
        Bench.due("after a fresh start", desk.state(5), 0);
        ClauseDesk huge = Desks.hugeTree();
        huge.clause(-1, 0, 0);
        huge.round();
        Bench.due("the root alone, after very many", Sight.tree(huge), "9/-1/-1");
        Bench.due("after refining with marks", refined().state(5), 0);
    }

    private static void refinings() {
        int[] refinings = {0, 0, 0, 0, 1, 2};
        for (int number = 0; number < 6; number++) {
            Bench.due("situation " + number, Desks.inSituation(number).state(6), refinings[number]);
        }
        ClauseDesk desk = Desks.counterWithAlarm();
        desk.refine();
        Bench.due("once, not once a mark", desk.state(6), 1);
        desk.start();
        Bench.due("a fresh start forgets nothing of it", desk.state(6), 1);
        desk.relation(1);
        Bench.due("nor a new relation", desk.state(6), 1);
        desk.verify(100);
        Bench.due("it goes on", desk.state(6), 2);
        ClauseDesk far = Desks.farValue(1001);
        far.refine();
        Bench.due("without new marks it does not count", far.state(6), 0);
    }

    private static void stateOfNothing() {
        for (int what : new int[] {LOWEST, -2, -1, 7, 8, HIGHEST}) {
            for (int number = 0; number < 6; number++) {
                Bench.due("state(" + what + ")", Desks.inSituation(number).state(what), -1);
            }
        }
    }

    private static void marks() {
        ClauseDesk desk = Desks.fourMarks();
        int[][] dues = {{0, 1, 1000}, {1, 0, -1000}, {0, 2, 5}, {2, 1, 5}};
        for (int k = 0; k < 4; k++) {
            for (int what = 0; what < 3; what++) {
                Bench.due("shown(0, " + k + ", " + what + ")", desk.shown(0, k, what), dues[k][what]);
            }
        }
        desk.mark(1, 2, 0, 7);
        Bench.due("ZERO is 2 for one place, too", Sight.marks(desk, 1), "2-0<=7");
    }

    private static void shownOfNoRelation() {
        for (int r : new int[] {LOWEST, -1, 2, 4, HIGHEST}) {
            Bench.refused("shown(" + r + ", 0, 0)", Desks::fourMarks, d -> d.shown(r, 0, 0), Bench.ARGUMENT);
            Bench.refused("shown(" + r + ", 9, 0)", Desks::fourMarks, d -> d.shown(r, 9, 0), Bench.ARGUMENT);
        }
        Bench.refused("a new desk", ClauseDesk::new, d -> d.shown(0, 0, 0), Bench.ARGUMENT);
    }

    private static void shownOfNothing() {
        for (int what : new int[] {LOWEST, -1, 3, HIGHEST}) {
            Bench.refused("shown(0, 0, " + what + ")", Desks::fourMarks, d -> d.shown(0, 0, what), Bench.ARGUMENT);
            Bench.refused("shown(0, 4, " + what + ")", Desks::fourMarks, d -> d.shown(0, 4, what), Bench.ARGUMENT);
            Bench.refused("shown(1, 0, " + what + ")", Desks::fourMarks, d -> d.shown(1, 0, what), Bench.ARGUMENT);
        }
    }

    private static void shownOfNoMark() {
        for (int k : new int[] {LOWEST, -1, 4, HIGHEST}) {
            for (int i = 0; i < 3; i++) {
                int what = i;
                Bench.refused("shown(0, " + k + ", " + i + ")", Desks::fourMarks, d -> d.shown(0, k, what),
                        Bench.NOT_FOUND);
            }
        }
        Bench.refused("a relation without marks", Desks::fourMarks, d -> d.shown(1, 0, 0), Bench.NOT_FOUND);
        Bench.refused("one more than refining gave", LookingSentences::refined, d -> d.shown(0, 2, 0),
                Bench.NOT_FOUND);
    }

    private static void heights() {
        ClauseDesk desk = Desks.ladder();
        int[] heights = {5, 0, 0, 0, 0, 0, 0, 0, 4, 0, 0, 0, 3, 0, 2, 1};
        for (int cube = 0; cube < 16; cube++) {
            Bench.due("before, cube " + cube, desk.cube(0, cube, 0), 0);
        }
        desk.verify(100);
        for (int cube = 0; cube < 16; cube++) {
            Bench.due("after, cube " + cube, desk.cube(0, cube, 0), heights[cube]);
        }
        Bench.due("with an alarm", Desks.counterWithAlarm().cube(0, 0, 0), 1);
        Bench.due("UNSAFE", Desks.unsafeCounter().cube(0, 3, 0), 1);
        Bench.due("UNKNOWN", Desks.unknownCounter().cube(0, 10, 0), 3);
        Bench.due("refined", refined().cube(0, 3, 0), 0);
    }

    private static void reasons() {
        ClauseDesk desk = Desks.ladder();
        desk.verify(100);
        int[][] dues = {{0, 15, 0, -1, -1}, {0, 14, 1, 15, 15}, {0, 12, 1, 14, 14}, {0, 0, 1, 8, 8},
            {0, 1, -1, -1, -1}, {0, 7, -1, -1, -1}, {1, 0, 2, 12, -1}, {2, 0, 3, 0, -1}};
        for (int[] a : dues) {
            for (int what = 1; what <= 3; what++) {
                Bench.due("cube(" + a[0] + ", " + a[1] + ", " + what + ")", desk.cube(a[0], a[1], what), a[1 + what]);
            }
        }
        desk.start();
        for (int[] a : dues) {
            for (int what = 1; what <= 3; what++) {
                Bench.due("after a fresh start", desk.cube(a[0], a[1], what), -1);
            }
        }
    }

    private static void allowing() {
        Bench.due("of no marks", Desks.relations(1).cube(0, 0, 4), 1);
        ClauseDesk desk = Desks.fourMarks();
        Bench.due("x - y = 1000, x <= 5, y >= -5", desk.cube(0, 15, 4), 0);
        Bench.due("x - y = 1000, x >= 6, y <= -6", desk.cube(0, 3, 4), 1);
        Bench.due("x - y = 1000, x <= 5, y <= -6", desk.cube(0, 7, 4), 1);
        Bench.due("x - y = 1000, x >= 6, y >= -5", desk.cube(0, 11, 4), 1);
        Bench.due("x - y >= 1001 and y - x >= -999", desk.cube(0, 0, 4), 0);
        ClauseDesk ladder = Desks.ladder();
        for (int turn = 0; turn < 2; turn++) {
            Bench.due("reached or not", Sight.allowing(ladder, 0), "0 8 12 14 15");
            ladder.verify(100);
        }
        Bench.due("it changes nothing", Sight.counts(ladder), "3 4 1 6 -1 0 0");
    }

    private static void cubeOfNoRelation() {
        for (int r : new int[] {LOWEST, -1, 2, 4, HIGHEST}) {
            Bench.refused("cube(" + r + ", 0, 0)", Desks::fourMarks, d -> d.cube(r, 0, 0), Bench.ARGUMENT);
            Bench.refused("cube(" + r + ", 0, 4)", Desks::fourMarks, d -> d.cube(r, 0, 4), Bench.ARGUMENT);
        }
        Bench.refused("a new desk", ClauseDesk::new, d -> d.cube(0, 0, 0), Bench.ARGUMENT);
    }

    private static void noSuchCube() {
        for (int what = 0; what <= 4; what++) {
            int shown = what;
            for (int cube : new int[] {LOWEST, -1, 16, 17, HIGHEST}) {
                Bench.refused("cube(0, " + cube + ", " + what + ")", Desks::fourMarks, d -> d.cube(0, cube, shown),
                        Bench.ARGUMENT);
            }
            Bench.refused("cube(1, 1, " + what + ")", Desks::fourMarks, d -> d.cube(1, 1, shown), Bench.ARGUMENT);
        }
        int[] ofNoMarks = {0, -1, -1, -1, 1};
        for (int what = 0; what <= 4; what++) {
            Bench.due("cube(1, 0, " + what + ")", Desks.fourMarks().cube(1, 0, what), ofNoMarks[what]);
        }
        Bench.refused("two marks, cube 4", LookingSentences::refined, d -> d.cube(0, 4, 0), Bench.ARGUMENT);
        Bench.due("two marks, cube 3", refined().cube(0, 3, 0), 0);
    }

    private static void cubeOfNothing() {
        for (int what : new int[] {LOWEST, -1, 5, HIGHEST}) {
            Bench.refused("cube(0, 0, " + what + ")", Desks::fourMarks, d -> d.cube(0, 0, what), Bench.ARGUMENT);
            Bench.refused("a state, what " + what, Desks::counterWithAlarm, d -> d.cube(0, 0, what), Bench.ARGUMENT);
        }
    }

    private static void nodes() {
        Bench.due("an alarm", Sight.tree(Desks.counterWithAlarm()), "2/-1/-1 0/0/0");
        Bench.due("UNSAFE", Sight.tree(Desks.unsafeCounter()), "2/-1/-1 1/0/2 0/1/3");
        Bench.due("UNKNOWN", Sight.tree(Desks.unknownCounter()), "2/-1/-1 1/0/10 1/1/14 0/2/7");
        ClauseDesk forty = Desks.ladderWithAlarm(1, 2);
        Bench.due("the last of forty, clause", forty.node(39, 0), 0);
        Bench.due("the last of forty, parent", forty.node(39, 1), 37);
        Bench.due("the last of forty, cube", forty.node(39, 2), 15);
    }

    private static void nodeOfNothing() {
        for (int what : new int[] {LOWEST, -1, 3, HIGHEST}) {
            Bench.refused("node(0, " + what + ")", Desks::counterWithAlarm, d -> d.node(0, what), Bench.ARGUMENT);
            Bench.refused("node(9, " + what + ")", Desks::counterWithAlarm, d -> d.node(9, what), Bench.ARGUMENT);
            Bench.refused("no alarm, what " + what, ClauseDesk::new, d -> d.node(0, what), Bench.ARGUMENT);
            Bench.refused("too many nodes, what " + what, () -> Desks.ladderWithAlarm(2, 2), d -> d.node(0, what),
                    Bench.ARGUMENT);
        }
    }

    private static void noSuchNode() {
        for (int k : new int[] {LOWEST, -1, 2, 39, 40, 41, HIGHEST}) {
            Bench.refused("node(" + k + ", 0) of two", Desks::counterWithAlarm, d -> d.node(k, 0), Bench.NOT_FOUND);
        }
        for (int k : new int[] {-1, 40, 41}) {
            Bench.refused("node(" + k + ", 0) of forty", () -> Desks.ladderWithAlarm(1, 2), d -> d.node(k, 0),
                    Bench.NOT_FOUND);
        }
        for (int number : new int[] {0, 1, 3}) {
            Bench.refused("no alarm in situation " + number, () -> Desks.inSituation(number), d -> d.node(0, 1),
                    Bench.NOT_FOUND);
        }
        Bench.refused("refined", LookingSentences::refined, d -> d.node(0, 2), Bench.NOT_FOUND);
    }

    private static void tooManyNodes() {
        for (int k : new int[] {0, 1, 39, 40, 41}) {
            for (int i = 0; i < 3; i++) {
                int what = i;
                Bench.refused("node(" + k + ", " + i + ")", () -> Desks.ladderWithAlarm(2, 2), d -> d.node(k, what),
                        Bench.NOT_FOUND);
            }
        }
        Bench.refused("very many", Desks::hugeTree, d -> d.node(0, 0), Bench.NOT_FOUND);
    }
}
