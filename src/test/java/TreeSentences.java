/** The sentences under "Terms" about trees and refining, and the test that holds to each. */
final class TreeSentences {
    private static final String TERMS = "Terms";
    private static final int UNSAFE = 2;
    private static final int UNKNOWN = 3;

    private TreeSentences() {
    }

    static void all() {
        Bench.holds(TERMS, "THE TREE of an alarm: its root is the alarm's clause; a node's children are, in the "
                + "order of its atoms, the trees of its premises: a node with the state's clause, and so on.",
                TreeSentences::trees);
        Bench.holds(TERMS, "Nodes are numbered from the root, 0, each before its first child and all below this "
                + "before the second child.", TreeSentences::numbers);
        Bench.holds(TERMS, "It has a set of bounds: each node has its own variables;", TreeSentences::ownVariables);
        Bench.holds(TERMS, "the bounds of its clause are on these;", TreeSentences::boundsOfEachNode);
        Bench.holds(TERMS, "and what stands at a place of an atom equals (by two bounds, <= 0 both ways) what stands "
                + "there in the head of this child.", TreeSentences::placesAreEqual);
        Bench.holds(TERMS, "A REFINING, when there is an alarm: if the tree has more than 40 nodes, the verdict is "
                + "UNKNOWN.", TreeSentences::moreThanForty);
        Bench.holds(TERMS, "Else if its bounds hold together: UNSAFE.", TreeSentences::unsafe);
        Bench.holds(TERMS, "Else for each node but the root, by its number:", TreeSentences::nodesInOrder);
        Bench.holds(TERMS, "of the set of bounds of the node and all below it,", TreeSentences::allBelow);
        Bench.holds(TERMS, "for each pair of the head's places and ZERO (the first from place 0 on, ZERO last, then "
                + "the second likewise):", TreeSentences::pairsInOrder);
        Bench.holds(TERMS, "the least c for which the bound first - second <= c follows from it, if there is one,",
                TreeSentences::leastLimits);
        Bench.holds(TERMS, "and it is -1000 .. 1000,", TreeSentences::limitsOfMarks);
        Bench.holds(TERMS, "and there are fewer than 4 marks:", TreeSentences::fewerThanFour);
        Bench.holds(TERMS, "it becomes a mark of the relation, if it is none.", TreeSentences::onlyNewMarks);
        Bench.holds(TERMS, "(If they do not hold together by themselves, no mark comes of this node.)",
                TreeSentences::brokenNodes);
        Bench.holds(TERMS, "If no mark came at all, the verdict is UNKNOWN;", TreeSentences::noMark);
        Bench.holds(TERMS, "otherwise there is a fresh start.", TreeSentences::freshStart);
    }

    /** p(x) by clause 0, q(x) if p(x) by clause 1; it must not be that p(x) and q(y), or q(y) and p(x). */
    private static void trees() {
        Bench.due("p and q", Sight.tree(twoAtomsAlarm(0, 1)), "2/-1/-1 0/0/0 1/0/0 0/2/0");
        Bench.due("q and p", Sight.tree(twoAtomsAlarm(1, 0)), "2/-1/-1 1/0/0 0/1/0 0/0/0");
        Bench.due("the same state twice", Sight.tree(twoAtomsAlarm(0, 0)), "2/-1/-1 0/0/0 0/0/0");
        ClauseDesk root = new ClauseDesk();
        root.clause(-1, 0, 0);
        root.round();
        Bench.due("the root alone", Sight.tree(root), "0/-1/-1");
    }

    private static ClauseDesk twoAtomsAlarm(int first, int second) {
        ClauseDesk desk = Desks.relations(1, 1);
        desk.clause(0, 0, 0);
        desk.clause(1, 0, 0);
        desk.atom(0, 0, 0);
        desk.clause(-1, 0, 0);
        desk.atom(first, 0, 0);
        desk.atom(second, 1, 0);
        desk.verify(3);
        return desk;
    }

    private static void numbers() {
        ClauseDesk desk = Desks.ladder();
        desk.clause(-1, 0, 0);
        desk.atom(0, 0, 0);
        desk.atom(2, 1, 0);
        Desks.equation(desk, 0, 5, 1);
        desk.verify(6);
        Bench.due("thirteen nodes", Sight.tree(desk), "4/-1/-1 1/0/14 0/1/15 0/1/15 3/0/0 2/4/0 1/5/12 1/6/14 "
                + "0/7/15 0/7/15 1/6/14 0/10/15 0/10/15");
        String[] forty = Sight.tree(Desks.ladderWithAlarm(1, 2)).split(" ");
        Bench.due("the first child's", forty[1] + " " + forty[2] + " " + forty[17], "1/0/0 1/1/8 1/1/8");
        Bench.due("the second child's", forty[32] + " " + forty[33] + " " + forty[34], "2/0/0 1/32/12 1/33/14");
        Bench.due("the last of forty", forty[37] + " " + forty[38] + " " + forty[39], "1/33/14 0/37/15 0/37/15");
    }

    /** p(x) for all x; it must not be that p(x), p(y) and x < y: two nodes with the same clause differ. */
    private static void ownVariables() {
        ClauseDesk desk = Desks.relations(1);
        desk.clause(0, 0, 0);
        desk.clause(-1, 0, 0);
        desk.atom(0, 0, 0);
        desk.atom(0, 1, 0);
        desk.bound(0, 1, -1);
        Bench.due("p(0) and p(1)", desk.verify(3), UNSAFE);
        ClauseDesk counter = Desks.counter(9, 1);
        Bench.due("x and x + 1 in one chain", counter.verify(100), UNSAFE);
        ClauseDesk unlike = Desks.relations(1);
        unlike.clause(0, 0, 0);
        unlike.bound(1, 5, -5);
        unlike.clause(-1, 0, 0);
        unlike.atom(0, 0, 0);
        unlike.bound(5, 1, -5);
        Bench.due("variable 1 of two nodes", unlike.verify(3), UNSAFE);
    }

    /** Three nodes in a chain, r(x) with x >= 3, x <= 5 and x <= 4: what each one's bounds are for. */
    private static void boundsOfEachNode() {
        Bench.due("3 <= x <= 5, x <= 3", chain(3, 5, 3).state(2), UNSAFE);
        Bench.due("the lowest node's break it", chain(4, 5, 3).state(2), 0);
        Bench.due("the middle node's break it", chain(3, 2, 3).state(2), 0);
        Bench.due("the root's break it", chain(3, 5, 2).state(2), 0);
        for (int stride : new int[] {1000, -1000}) {
            Bench.due("of 39 nodes", Desks.farLadder(stride, 0).state(5), 39);
            Bench.due("great sums that are equal", afterRefining(Desks.farLadder(stride, 0)).state(2), UNSAFE);
            Bench.due("great sums that are not", afterRefining(Desks.farLadder(stride, -1)).state(2), UNKNOWN);
        }
    }

    /** p(x) if x >= low; q(x) if p(x) and x <= middle; it must not be that q(x) and x <= top; refined. */
    private static ClauseDesk chain(int low, int middle, int top) {
        ClauseDesk desk = Desks.relations(1, 1);
        desk.clause(0, 0, 0);
        desk.bound(5, 0, -low);
        desk.clause(1, 1, 0);
        desk.atom(0, 1, 0);
        desk.bound(1, 5, middle);
        desk.clause(-1, 0, 0);
        desk.atom(1, 2, 0);
        desk.bound(2, 5, top);
        desk.verify(3);
        desk.refine();
        return desk;
    }

    private static ClauseDesk afterRefining(ClauseDesk desk) {
        desk.refine();
        return desk;
    }

    /** r(3, 1), with other variables above: each place equals its own, neither more nor less. */
    private static void placesAreEqual() {
        Bench.due("x = 3", verdictOfPair(2, 3, 3), UNSAFE);
        Bench.due("x <= 2", verdictOfPair(2, -1000, 2), 0);
        Bench.due("x >= 4", verdictOfPair(2, 4, 1000), 0);
        Bench.due("y = 1", verdictOfPair(0, 1, 1), UNSAFE);
        Bench.due("y <= 0", verdictOfPair(0, -1000, 0), 0);
        Bench.due("y >= 2", verdictOfPair(0, 2, 1000), 0);
        ClauseDesk same = Desks.relations(2);
        same.clause(0, 0, 1);
        same.bound(0, 1, -1);
        same.clause(-1, 0, 0);
        same.atom(0, 3, 3);
        Bench.due("r(x, y) with x < y, and r(z, z)", same.verify(3), 0);
        Bench.due("breaks", Sight.marks(same, 0), "0-1<=-1");
    }

    /** r(3, 1); it must not be that r(v2, v0) and the variable is between low and high. */
    private static int verdictOfPair(int variable, int low, int high) {
        ClauseDesk desk = Desks.relations(2);
        desk.clause(0, 4, 3);
        Desks.equation(desk, 4, 5, 3);
        Desks.equation(desk, 3, 5, 1);
        desk.clause(-1, 0, 0);
        desk.atom(0, 2, 0);
        desk.bound(variable, 5, high);
        desk.bound(5, variable, -low);
        return desk.verify(3);
    }

    private static void moreThanForty() {
        ClauseDesk forty = Desks.ladderWithAlarm(1, 2);
        Bench.due("forty nodes", forty.state(5), 40);
        Bench.due("no mark of forty that hold", forty.refine(), 0);
        Bench.due("which are not too many", forty.state(2), UNSAFE);
        ClauseDesk more = Desks.ladderWithAlarm(2, 2);
        Bench.due("forty-one nodes", more.state(5), 41);
        Bench.due("no mark", more.refine(), 0);
        Bench.due("though they hold together", more.state(2), UNKNOWN);
        ClauseDesk broken = Desks.ladderWithAlarm(2, 1);
        Bench.due("no mark though they break", broken.refine(), 0);
        Bench.due("forty-one that break", broken.state(2), UNKNOWN);
        Bench.due("no mark of q", Sight.marks(broken, 1), "");
        ClauseDesk huge = Desks.hugeTree();
        Bench.due("more nodes than can be counted", huge.state(5), 41);
        huge.refine();
        Bench.due("huge", Sight.counts(huge), "4 9 3 21 8 41 0");
    }

    private static void unsafe() {
        ClauseDesk root = new ClauseDesk();
        root.clause(-1, 0, 0);
        root.round();
        Bench.due("the root alone", root.refine(), 0);
        Bench.due("holds together", Sight.counts(root), "0 1 2 1 0 1 0");
        ClauseDesk counter = Desks.counter(9, 0);
        counter.round();
        counter.round();
        Bench.due("p(0) and x >= 0", counter.refine(), 0);
        Bench.due("the alarm and its tree stay", Sight.counts(counter), "1 3 2 2 2 2 0");
        Bench.due("with their nodes", Sight.tree(counter), "2/-1/-1 0/0/0");
        Bench.due("and the states", Sight.states(counter, 0), "0:1/0/-1/-1");
        Bench.due("for which the alarm's clause does not hold", counter.check(), 2);
        Bench.due("no mark came", Sight.marks(counter, 0), "");
        Bench.due("p(0) and x >= 1", Desks.counter(9, 1).verify(3), 0);
    }

    /** There is room for one mark, which the first of two nodes of the same relation gets. */
    private static void nodesInOrder() {
        Bench.due("p(5) before p(0)", competing(0, 1), "0-2<=2 0-2<=500 0-2<=501 0-2<=5");
        Bench.due("p(0) before p(5)", competing(1, 0), "0-2<=2 0-2<=500 0-2<=501 0-2<=0");
        ClauseDesk root = Desks.relations(1);
        root.clause(-1, 0, 0);
        root.atom(0, 0, 0);
        root.bound(5, 0, -3);
        root.clause(0, 0, 0);
        root.bound(0, 5, 2);
        root.verify(2);
        Bench.due("the root gives none", root.refine(), 1);
        Bench.due("even if it is clause 0", Sight.marks(root, 0), "0-2<=2");
        Bench.due("a small tree after a large one", smallAfterLarge(), "0-2<=2 and ");
    }

    /** A tree of three nodes is UNSAFE; then its clause is broken, and another has a tree of two. */
    private static String smallAfterLarge() {
        ClauseDesk desk = Desks.relations(1, 1);
        desk.clause(0, 0, 0);
        desk.bound(0, 5, 2);
        desk.clause(1, 0, 0);
        desk.bound(0, 5, 4);
        desk.clause(-1, 0, 0);
        desk.atom(1, 0, 0);
        desk.atom(1, 1, 0);
        Bench.due("three nodes that hold", desk.verify(3), UNSAFE);
        desk.bound(0, 1, -1);
        desk.bound(1, 0, 0);
        desk.clause(-1, 0, 0);
        desk.atom(0, 0, 0);
        desk.bound(5, 0, -3);
        Bench.due("two that do not", desk.verify(3), 0);
        return Sight.marks(desk, 0) + " and " + Sight.marks(desk, 1);
    }

    /** p(0) and p(5) have different cubes; it must not be that p(x), p(y), x >= 3, y <= 2, x - y <= 4. */
    private static String competing(int x, int y) {
        ClauseDesk desk = Desks.relations(1);
        desk.mark(0, 0, 2, 2);
        desk.mark(0, 0, 2, 500);
        desk.mark(0, 0, 2, 501);
        desk.clause(0, 0, 0);
        Desks.equation(desk, 0, 5, 0);
        desk.clause(0, 0, 0);
        Desks.equation(desk, 0, 5, 5);
        desk.clause(-1, 0, 0);
        desk.atom(0, 0, 0);
        desk.atom(0, 1, 0);
        desk.bound(5, x, -3);
        desk.bound(y, 5, 2);
        desk.bound(x, y, 4);
        desk.verify(2);
        Bench.due("one mark comes", desk.refine(), 1);
        return Sight.marks(desk, 0);
    }

    private static void allBelow() {
        ClauseDesk desk = chain(3, 5, 2);
        Bench.due("p knows nothing of what is above", Sight.marks(desk, 0), "2-0<=-3");
        Bench.due("q knows of p", Sight.marks(desk, 1), "0-2<=5 2-0<=-3");
        ClauseDesk sum = Desks.relations(1, 1);
        sum.clause(0, 4, 0);
        Desks.equation(sum, 4, 5, 2);
        sum.clause(1, 1, 0);
        sum.atom(0, 0, 0);
        Desks.equation(sum, 1, 0, 7);
        sum.clause(-1, 0, 0);
        sum.atom(1, 3, 0);
        sum.bound(3, 5, 8);
        sum.verify(3);
        Bench.due("two marks of each", sum.refine(), 4);
        Bench.due("p", Sight.marks(sum, 0), "0-2<=2 2-0<=-2");
        Bench.due("q, by a sum", Sight.marks(sum, 1), "0-2<=9 2-0<=-9");
        ClauseDesk beside = Desks.relations(1, 1);
        beside.clause(0, 0, 0);
        beside.bound(0, 5, 4);
        beside.clause(1, 0, 0);
        beside.bound(5, 0, -5);
        beside.clause(-1, 0, 0);
        beside.atom(0, 0, 0);
        beside.atom(1, 0, 0);
        beside.verify(2);
        Bench.due("one mark of each", beside.refine(), 2);
        Bench.due("p knows nothing of what is beside it", Sight.marks(beside, 0), "0-2<=4");
        Bench.due("nor q", Sight.marks(beside, 1), "2-0<=-5");
    }

    private static void pairsInOrder() {
        Bench.due("x = y + 3, x <= 10", pairs(0, 1, 3, 1, 0, -3, 0, 5, 10), "0-1<=3 0-2<=10 1-0<=-3 1-2<=7");
        Bench.due("x >= 5, y >= 6", pairs(5, 0, -5, 5, 1, -6), "2-0<=-5 2-1<=-6");
        Bench.due("y <= 4, y <= x - 3, x >= 5", pairs(1, 5, 4, 1, 0, -3, 5, 0, -5), "1-0<=-3 1-2<=4 2-0<=-5");
        Bench.due("x = 5, y = 2", pairs(0, 5, 5, 5, 0, -5, 1, 5, 2, 5, 1, -2),
                "0-1<=3 0-2<=5 1-0<=-3 1-2<=2");
        ClauseDesk one = Desks.counterWithAlarm();
        one.refine();
        Bench.due("a relation of one place", Sight.marks(one, 0), "0-2<=0 2-0<=0");
        ClauseDesk same = Desks.relations(2);
        same.clause(0, 3, 3);
        same.clause(-1, 0, 0);
        same.atom(0, 0, 1);
        same.bound(0, 1, -1);
        same.verify(3);
        Bench.due("r(x, x)", Sight.marks(same, 0), "0-1<=0 1-0<=0");
    }

    /** The marks of r(x, y) if these bounds, after a refining; it must not be that x <= y and x <= 4. */
    private static String pairs(int... bounds) {
        ClauseDesk desk = Desks.relations(2);
        desk.clause(0, 0, 1);
        for (int i = 0; i < bounds.length; i += 3) {
            desk.bound(bounds[i], bounds[i + 1], bounds[i + 2]);
        }
        desk.clause(-1, 0, 0);
        desk.atom(0, 2, 4);
        desk.bound(2, 4, 0);
        desk.bound(2, 5, 4);
        desk.verify(3);
        return Sight.marks(desk, 0);
    }

    private static void leastLimits() {
        Bench.due("no limit above", pairs(5, 0, -5), "2-0<=-5");
        Bench.due("no limit below", pairs(0, 1, 3, 1, 0, -1), "0-1<=3 1-0<=-1");
        Bench.due("the least of several", pairs(5, 0, -5, 5, 0, -7, 5, 0, -6), "2-0<=-7");
        Bench.due("a way round that is less", pairs(5, 2, -4, 2, 0, -4, 5, 0, -5), "2-0<=-8");
        Bench.due("a way round that is more", pairs(5, 2, -2, 2, 0, -2, 5, 0, -5), "2-0<=-5");
    }

    private static void limitsOfMarks() {
        Bench.due("x = 1000", farMarks(1000), "0-2<=1000 2-0<=-1000");
        Bench.due("x = 1001", farMarks(1001), "");
        Bench.due("x = 4000", farMarks(4000), "");
        Bench.due("x = -1000", farMarks(-1000), "0-2<=-1000 2-0<=1000");
        Bench.due("x = -1001", farMarks(-1001), "");
        ClauseDesk oneSide = Desks.relations(1);
        oneSide.clause(0, 0, 0);
        oneSide.bound(5, 0, -1000);
        oneSide.bound(0, 1, 1000);
        oneSide.bound(1, 5, 1);
        oneSide.clause(-1, 0, 0);
        oneSide.atom(0, 0, 0);
        oneSide.bound(0, 5, 999);
        oneSide.verify(3);
        Bench.due("1000 <= x <= 1001", Sight.marks(oneSide, 0), "2-0<=-1000");
        ClauseDesk back = Desks.relations(1, 1);
        back.clause(0, 0, 0);
        Desks.equation(back, 0, 1, 1000);
        Desks.equation(back, 1, 5, 1000);
        back.clause(1, 1, 0);
        back.atom(0, 0, 0);
        Desks.equation(back, 1, 0, -1000);
        back.clause(-1, 0, 0);
        back.atom(1, 0, 0);
        back.bound(0, 5, 999);
        back.verify(3);
        Bench.due("x = 2000, y = x - 1000", back.refine(), 2);
        Bench.due("y comes back", Sight.marks(back, 1), "0-2<=1000 2-0<=-1000");
        Bench.due("x stays too far", Sight.marks(back, 0), "");
    }

    private static String farMarks(int value) {
        ClauseDesk desk = Desks.farValue(value);
        desk.refine();
        Bench.due("verdict", desk.state(2), Sight.marks(desk, 0).isEmpty() ? UNKNOWN : 0);
        return Sight.marks(desk, 0);
    }

    private static void fewerThanFour() {
        Bench.due("two marks, room for two", marksBeside(2), "0-2<=500 0-2<=501 0-2<=0 2-0<=0");
        Bench.due("three marks, room for one", marksBeside(3), "0-2<=500 0-2<=501 0-2<=502 0-2<=0");
        Bench.due("four marks, no room", marksBeside(4), "0-2<=500 0-2<=501 0-2<=502 0-2<=503");
        Bench.due("room in another relation", Sight.marks(afterRefining(Desks.ladderWithAlarm(1, 1)), 1),
                "0-2<=2 2-0<=-2");
    }

    private static String marksBeside(int there) {
        ClauseDesk desk = Desks.counter(9, 11);
        for (int k = 0; k < there; k++) {
            desk.mark(0, 0, 2, 500 + k);
        }
        desk.verify(2);
        Bench.due("marks that come beside " + there, desk.refine(), 4 - there);
        return Sight.marks(desk, 0);
    }

    private static void onlyNewMarks() {
        ClauseDesk desk = Desks.counter(9, 11);
        desk.mark(0, 2, 0, 0);
        desk.verify(2);
        Bench.due("x >= 0 is there", desk.refine(), 1);
        Bench.due("x <= 0 comes", Sight.marks(desk, 0), "2-0<=0 0-2<=0");
        ClauseDesk opposite = Desks.counter(9, 11);
        opposite.mark(0, 0, 2, -1);
        opposite.verify(2);
        Bench.due("the opposite of x >= 0 is there", opposite.refine(), 2);
        Bench.due("which is another mark", Sight.marks(opposite, 0), "0-2<=-1 0-2<=0 2-0<=0");
        ClauseDesk twice = Desks.relations(1);
        twice.clause(0, 0, 0);
        Desks.equation(twice, 0, 5, 3);
        twice.clause(-1, 0, 0);
        twice.atom(0, 0, 0);
        twice.atom(0, 1, 0);
        twice.bound(0, 1, -1);
        twice.verify(2);
        Bench.due("two nodes with the same marks", twice.refine(), 2);
        Bench.due("which come once", Sight.marks(twice, 0), "0-2<=3 2-0<=-3");
    }

    private static void brokenNodes() {
        ClauseDesk desk = chain(6, 5, 1000);
        Bench.due("q's node breaks by what is below it", Sight.marks(desk, 1), "");
        Bench.due("p's does not", Sight.marks(desk, 0), "2-0<=-6");
        ClauseDesk whole = chain(5, 5, 4);
        Bench.due("a node that just holds", Sight.marks(whole, 1), "0-2<=5 2-0<=-5");
        ClauseDesk deep = Desks.relations(1, 1, 1);
        deep.clause(0, 0, 0);
        deep.bound(0, 5, 4);
        deep.clause(1, 0, 0);
        deep.atom(0, 0, 0);
        deep.bound(5, 0, -5);
        deep.clause(2, 0, 0);
        deep.atom(1, 0, 0);
        Desks.equation(deep, 0, 5, 7);
        deep.clause(-1, 0, 0);
        deep.atom(2, 0, 0);
        deep.verify(4);
        Bench.due("what is broken below breaks all above", deep.refine(), 1);
        Bench.due("only the lowest node's mark", Sight.marks(deep, 0), "0-2<=4");
    }

    private static void noMark() {
        ClauseDesk far = Desks.farValue(1001);
        Bench.due("no mark", far.refine(), 0);
        Bench.due("the alarm stays, nothing is counted", Sight.counts(far), "1 2 3 2 1 2 0");
        Bench.due("and its tree", Sight.tree(far), "1/-1/-1 0/0/0");
        Bench.due("and the states", Sight.states(far, 0), "0:1/0/-1/-1");
        ClauseDesk unknown = Desks.unknownCounter();
        Bench.due("no room", Sight.counts(unknown), "1 3 3 4 2 4 2");
    }

    private static void freshStart() {
        ClauseDesk desk = Desks.counterWithAlarm();
        Bench.due("before", Sight.counts(desk), "1 3 0 2 2 2 0");
        Bench.due("marks", desk.refine(), 2);
        Bench.due("after", Sight.counts(desk), "1 3 0 0 -1 0 1");
        Bench.due("no states", Sight.states(desk, 0), "");
        Bench.due("one mark alone is enough", Desks.farValue(1000).refine(), 2);
        Bench.due("a round can be made", desk.round(), 1);
    }
}
