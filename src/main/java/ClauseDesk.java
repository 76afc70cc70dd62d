import java.util.NoSuchElementException;

/**
 * A desk for clauses about whole numbers: relations that are the least ones to obey some clauses
 * are looked for from above, by what a few bounds on their arguments can tell apart; whether
 * something that must not be follows from them is answered, with a proof or a derivation; a
 * derivation that does not hold gives new bounds, and one tries again.
 */
public final class ClauseDesk {
    public static final int NONE = -1;

    private static final int MOST_RELATIONS = 4;
    private static final int MOST_MARKS = 4;
    private static final int MOST_CUBES = 1 << MOST_MARKS;
    private static final int MOST_CLAUSES = 12;
    private static final int MOST_ATOMS = 2;
    private static final int MOST_BOUNDS = 8;
    private static final int MOST_NODES = 40;
    private static final int MOST_FUEL = 100;
    private static final int LARGEST = 1000;

    private static final int VARIABLES = 5;
    /** The points of a clause are its variables and, last, ZERO. */
    private static final int ZERO = VARIABLES;
    private static final int POINTS = VARIABLES + 1;
    /** The corners of a relation are its places and, always with this number, ZERO. */
    private static final int ZERO_CORNER = 2;
    private static final int CORNERS = 3;

    /** Two cubes as one number, the first one's weighing more; a missing atom counts as cube 0. */
    private static final int PAIRS = MOST_CUBES * MOST_CUBES;

    /** More than any sum of bounds can be: no bound follows. */
    private static final int FREE = 1000000000;

    private static final int OPEN = 0;
    private static final int SAFE = 1;
    private static final int UNSAFE = 2;
    private static final int UNKNOWN = 3;

    private final Relation[] relations = new Relation[MOST_RELATIONS];
    private int relationCount;
    private final Clause[] clauses = new Clause[MOST_CLAUSES];
    private int clauseCount;
    private int rounds;
    private int verdict;
    private int alarm;
    private final Tree tree = new Tree();
    private int refinings;

    /** What holds for a clause with a state for its first atom, for both, and with its head's cube. */
    private final BoundSet withFirst = new BoundSet();
    private final BoundSet withBoth = new BoundSet();
    private final BoundSet withHead = new BoundSet();

    public ClauseDesk() {
        for (int r = 0; r < MOST_RELATIONS; r++) {
            relations[r] = new Relation();
        }
        for (int k = 0; k < MOST_CLAUSES; k++) {
            clauses[k] = new Clause();
        }
        alarm = NONE;
        verdict = OPEN;
    }

    public int relation(int places) throws IllegalArgumentException, IllegalStateException {
        if (places != 1 && places != 2) {
            throw new IllegalArgumentException("a relation has 1 or 2 places");
        }
        if (relationCount == MOST_RELATIONS) {
            throw new IllegalStateException("there are 4 relations");
        }
        relations[relationCount].places = places;
        relationCount++;
        startAfresh();
        return relationCount - 1;
    }

    public int mark(int r, int u, int v, int c) throws IllegalArgumentException, IllegalStateException {
        if (!isRelation(r) || !relations[r].canMark(u, v, c)) {
            throw new IllegalArgumentException("no bound on the places of a relation");
        }
        Relation relation = relations[r];
        if (relation.marks == MOST_MARKS || relation.hasMark(u, v, c)) {
            throw new IllegalStateException("the relation has 4 marks, or this one");
        }
        relation.addMark(u, v, c);
        startAfresh();
        return relation.marks - 1;
    }

    public int clause(int r, int x, int y) throws IllegalArgumentException, IllegalStateException {
        if (r != NONE && !isLiteral(r, x, y)) {
            throw new IllegalArgumentException("no relation with its variables");
        }
        if (clauseCount == MOST_CLAUSES) {
            throw new IllegalStateException("there are 12 clauses");
        }
        fill(clauses[clauseCount].head, r, x, y);
        clauseCount++;
        startAfresh();
        return clauseCount - 1;
    }

    public int atom(int r, int x, int y) throws IllegalArgumentException, IllegalStateException {
        if (!isLiteral(r, x, y)) {
            throw new IllegalArgumentException("no relation with its variables");
        }
        if (clauseCount == 0 || clauses[clauseCount - 1].atoms == MOST_ATOMS) {
            throw new IllegalStateException("there is no clause, or it has 2 atoms");
        }
        Clause latest = clauses[clauseCount - 1];
        fill(latest.body[latest.atoms], r, x, y);
        latest.atoms++;
        startAfresh();
        return latest.atoms - 1;
    }

    public int bound(int u, int v, int c) throws IllegalArgumentException, IllegalStateException {
        if (!areTwoPoints(u, v) || !isLimit(c)) {
            throw new IllegalArgumentException("no bound on variables and ZERO");
        }
        if (clauseCount == 0 || clauses[clauseCount - 1].bounds == MOST_BOUNDS) {
            throw new IllegalStateException("there is no clause, or it has 8 bounds");
        }
        Clause latest = clauses[clauseCount - 1];
        latest.own.add(u, v, c);
        latest.bounds++;
        startAfresh();
        return latest.bounds;
    }

    public int round() throws IllegalStateException {
        if (verdict != OPEN || alarm != NONE) {
            throw new IllegalStateException("there is a verdict or an alarm");
        }
        return makeRound();
    }

    public int refine() throws IllegalStateException {
        if (verdict != OPEN || alarm == NONE) {
            throw new IllegalStateException("there is no alarm, or a verdict");
        }
        return refineAlarm();
    }

    public int verify(int fuel) throws IllegalArgumentException {
        if (fuel < 0 || fuel > MOST_FUEL) {
            throw new IllegalArgumentException("fuel is 0 .. 100");
        }
        for (int step = 0; step < fuel && verdict == OPEN; step++) {
            if (alarm == NONE) {
                makeRound();
            } else {
                refineAlarm();
            }
        }
        return verdict;
    }

    public void start() {
        startAfresh();
    }

    public int check() {
        for (int k = 0; k < clauseCount; k++) {
            if (!isObeyed(clauses[k])) {
                return k;
            }
        }
        return NONE;
    }

    public int follows(int k, int u, int v)
            throws IllegalArgumentException, ArithmeticException, NoSuchElementException {
        if (k < 0 || k >= clauseCount || !areTwoPoints(u, v)) {
            throw new IllegalArgumentException("no clause, or not two of its variables and ZERO");
        }
        BoundSet own = clauses[k].own;
        if (!own.together) {
            throw new ArithmeticException("the bounds do not hold together");
        }
        int least = own.leastOf(u, v);
        if (least == FREE) {
            throw new NoSuchElementException("no such bound follows");
        }
        return least;
    }

    public int state(int what) {
        switch (what) {
            case 0:
                return relationCount;
            case 1:
                return clauseCount;
            case 2:
                return verdict;
            case 3:
                return rounds;
            case 4:
                return alarm;
            case 5:
                return tree.size;
            case 6:
                return refinings;
            default:
                return NONE;
        }
    }

    public int shown(int r, int k, int what) throws IllegalArgumentException, NoSuchElementException {
        if (!isRelation(r) || what < 0 || what > 2) {
            throw new IllegalArgumentException("no such relation, or nothing to show");
        }
        Relation relation = relations[r];
        if (k < 0 || k >= relation.marks) {
            throw new NoSuchElementException("no such mark");
        }
        if (what == 0) {
            return relation.markFirst[k];
        }
        return what == 1 ? relation.markSecond[k] : relation.markLimit[k];
    }

    public int cube(int r, int cube, int what) throws IllegalArgumentException {
        if (!isRelation(r) || cube < 0 || cube >= relations[r].cubes() || what < 0 || what > 4) {
            throw new IllegalArgumentException("no such relation or cube, or nothing to show");
        }
        Relation relation = relations[r];
        if (what == 0) {
            return relation.height[cube];
        }
        if (what == 4) {
            withHead.clear();
            relation.restrict(withHead, cube, 0, 1);
            return withHead.together ? 1 : 0;
        }
        if (relation.height[cube] == 0) {
            return NONE;
        }
        if (what == 1) {
            return relation.reason[cube];
        }
        return what == 2 ? relation.firstPremise[cube] : relation.secondPremise[cube];
    }

    public int node(int k, int what) throws IllegalArgumentException, NoSuchElementException {
        if (what < 0 || what > 2) {
            throw new IllegalArgumentException("nothing to show");
        }
        if (tree.size > MOST_NODES || k < 0 || k >= tree.size) {
            throw new NoSuchElementException("no such node, or more than 40");
        }
        Node node = tree.nodes[k];
        if (what == 0) {
            return node.rule;
        }
        return what == 1 ? node.parent : node.cube;
    }

    private boolean isRelation(int r) {
        return r >= 0 && r < relationCount;
    }

    private boolean isLiteral(int r, int x, int y) {
        return isRelation(r) && isVariable(x) && (relations[r].places == 1 || isVariable(y));
    }

    private static boolean isVariable(int x) {
        return x >= 0 && x < VARIABLES;
    }

    private static boolean areTwoPoints(int u, int v) {
        return u >= 0 && u < POINTS && v >= 0 && v < POINTS && u != v;
    }

    private static boolean isLimit(int c) {
        return c >= -LARGEST && c <= LARGEST;
    }

    /** The point of a clause at a corner of a relation whose places have the variables x and y. */
    private static int pointAt(int corner, int x, int y) {
        if (corner == ZERO_CORNER) {
            return ZERO;
        }
        return corner == 0 ? x : y;
    }

    /** What counts for nothing is not kept, so that whatever stands in a literal is a variable. */
    private void fill(Literal literal, int r, int x, int y) {
        literal.relation = r;
        literal.x = r == NONE ? 0 : x;
        literal.y = r == NONE || relations[r].places == 1 ? 0 : y;
    }

    private void startAfresh() {
        for (int r = 0; r < relationCount; r++) {
            relations[r].forgetStates();
        }
        rounds = 0;
        alarm = NONE;
        tree.size = 0;
        verdict = OPEN;
    }

    private int makeRound() {
        int reached = 0;
        if (!raiseAlarm()) {
            for (int k = 0; k < clauseCount; k++) {
                reached += reachBy(k);
            }
            if (reached == 0) {
                verdict = SAFE;
            }
        }
        rounds++;
        return reached;
    }

    private boolean raiseAlarm() {
        for (int k = 0; k < clauseCount; k++) {
            if (clauses[k].head.relation == NONE) {
                int pair = nextPremises(clauses[k], 0);
                if (pair < PAIRS) {
                    alarm = k;
                    growTree(pair);
                    return true;
                }
            }
        }
        return false;
    }

    /** Least clauses come first, and least premises with them: what is reached keeps its reason. */
    private int reachBy(int k) {
        Clause rule = clauses[k];
        int reached = 0;
        if (rule.head.relation != NONE) {
            for (int pair = nextPremises(rule, 0); pair < PAIRS; pair = nextPremises(rule, pair + 1)) {
                reached += reachCubes(k, pair);
            }
        }
        return reached;
    }

    private int reachCubes(int k, int pair) {
        Clause rule = clauses[k];
        Relation relation = relations[rule.head.relation];
        int reached = 0;
        for (int cube = 0; cube < relation.cubes(); cube++) {
            if (isMissing(rule.head, cube)) {
                relation.height[cube] = rounds + 1;
                relation.reason[cube] = k;
                relation.firstPremise[cube] = rule.premise(0, pair);
                relation.secondPremise[cube] = rule.premise(1, pair);
                reached++;
            }
        }
        return reached;
    }

    private boolean isObeyed(Clause rule) {
        for (int pair = nextPremises(rule, 0); pair < PAIRS; pair = nextPremises(rule, pair + 1)) {
            if (rule.head.relation == NONE || isAnyMissing(rule.head)) {
                return false;
            }
        }
        return true;
    }

    private boolean isAnyMissing(Literal head) {
        int cubes = relations[head.relation].cubes();
        for (int cube = 0; cube < cubes; cube++) {
            if (isMissing(head, cube)) {
                return true;
            }
        }
        return false;
    }

    /** Whether a cube that was not reached can be had from the premises laid last. */
    private boolean isMissing(Literal head, int cube) {
        Relation relation = relations[head.relation];
        if (relation.height[cube] != 0) {
            return false;
        }
        withHead.copyFrom(withBoth);
        relation.restrict(withHead, cube, head.x, head.y);
        return withHead.together;
    }

    /**
     * The first pair of premises, this one or a later one, with which the clause's body holds
     * together, laid in withBoth; PAIRS when there is none.
     */
    private int nextPremises(Clause rule, int from) {
        int firsts = choices(rule, 0);
        int seconds = choices(rule, 1);
        int second = from % MOST_CUBES;
        for (int first = from / MOST_CUBES; first < firsts; first++) {
            if (lay(withFirst, rule.own, rule, 0, first)) {
                for (; second < seconds; second++) {
                    if (lay(withBoth, withFirst, rule, 1, second)) {
                        return first * MOST_CUBES + second;
                    }
                }
            }
            second = 0;
        }
        return PAIRS;
    }

    private int choices(Clause rule, int atom) {
        return atom < rule.atoms ? relations[rule.body[atom].relation].cubes() : 1;
    }

    /** States of the round that is going on are not there yet: they are higher than the rounds made. */
    private boolean lay(BoundSet upon, BoundSet under, Clause rule, int atom, int cube) {
        if (atom >= rule.atoms) {
            upon.copyFrom(under);
            return upon.together;
        }
        Literal literal = rule.body[atom];
        Relation relation = relations[literal.relation];
        int height = relation.height[cube];
        if (height == 0 || height > rounds) {
            return false;
        }
        upon.copyFrom(under);
        relation.restrict(upon, cube, literal.x, literal.y);
        return upon.together;
    }

    /** Stops at the first node too many, so that a tree without measure costs no more than a large one. */
    private void growTree(int pair) {
        tree.size = 0;
        tree.waiting = 0;
        Clause rule = clauses[alarm];
        tree.nodes[0].fill(alarm, NONE, 0, NONE);
        tree.number(rule, rule.premise(0, pair), rule.premise(1, pair));
        for (int turn = 0; turn < MOST_NODES && tree.waiting > 0; turn++) {
            tree.waiting--;
            growChild(tree.waitingParent[tree.waiting], tree.waitingAtom[tree.waiting],
                    tree.waitingCube[tree.waiting]);
        }
    }

    private void growChild(int parent, int atom, int cube) {
        Literal literal = clauses[tree.nodes[parent].rule].body[atom];
        Relation relation = relations[literal.relation];
        int reason = relation.reason[cube];
        tree.nodes[tree.size].fill(reason, parent, atom, cube);
        tree.number(clauses[reason], relation.firstPremise[cube], relation.secondPremise[cube]);
    }

    private int refineAlarm() {
        if (tree.size > MOST_NODES) {
            verdict = UNKNOWN;
            return 0;
        }
        closeTree();
        if (tree.nodes[0].below.together) {
            verdict = UNSAFE;
            return 0;
        }
        int came = 0;
        for (int k = 1; k < tree.size; k++) {
            came += markBy(tree.nodes[k]);
        }
        if (came == 0) {
            verdict = UNKNOWN;
        } else {
            refinings++;
            startAfresh();
        }
        return came;
    }

    /**
     * Of all below a node its parent needs to know only what follows for the corners of the head:
     * any numbers for these that obey it can be completed below. So six points a node are enough.
     */
    private void closeTree() {
        for (int k = 0; k < tree.size; k++) {
            Node node = tree.nodes[k];
            node.below.copyFrom(clauses[node.rule].own);
        }
        // Children have higher numbers than their parents: each is whole before it is handed up.
        for (int k = tree.size - 1; k > 0; k--) {
            handUp(tree.nodes[k]);
        }
    }

    private void handUp(Node child) {
        Node parent = tree.nodes[child.parent];
        if (!child.below.together) {
            parent.below.together = false;
            return;
        }
        Literal head = clauses[child.rule].head;
        Literal atom = clauses[parent.rule].body[child.atom];
        Relation relation = relations[head.relation];
        for (int first = 0; first < CORNERS; first++) {
            for (int second = 0; second < CORNERS; second++) {
                if (relation.areTwoCorners(first, second)) {
                    int least = child.below.leastOf(head.point(first), head.point(second));
                    parent.below.add(atom.point(first), atom.point(second), least);
                }
            }
        }
    }

    private int markBy(Node node) {
        if (!node.below.together) {
            return 0;
        }
        Literal head = clauses[node.rule].head;
        Relation relation = relations[head.relation];
        int came = 0;
        for (int first = 0; first < CORNERS; first++) {
            for (int second = 0; second < CORNERS; second++) {
                int least = node.below.leastOf(head.point(first), head.point(second));
                if (relation.marks < MOST_MARKS && relation.canMark(first, second, least)
                        && !relation.hasMark(first, second, least)) {
                    relation.addMark(first, second, least);
                    came++;
                }
            }
        }
        return came;
    }

    /** Bounds on the points of a clause, always with all that follows from them. */
    private static final class BoundSet {
        /** The least c for first - second <= c, FREE without one; worth nothing unless together. */
        final int[] least = new int[POINTS * POINTS];
        boolean together;

        BoundSet() {
            clear();
        }

        void clear() {
            together = true;
            for (int i = 0; i < POINTS * POINTS; i++) {
                least[i] = i / POINTS == i % POINTS ? 0 : FREE;
            }
        }

        void copyFrom(BoundSet other) {
            together = other.together;
            System.arraycopy(other.least, 0, least, 0, POINTS * POINTS);
        }

        int leastOf(int u, int v) {
            return least[u * POINTS + v];
        }

        /** The two points may be one, and the bound may be none (FREE). */
        void add(int u, int v, int c) {
            if (!together || c >= least[u * POINTS + v]) {
                return;
            }
            int back = least[v * POINTS + u];
            if (back != FREE && back + c < 0) {
                together = false;
                return;
            }
            for (int i = 0; i < POINTS * POINTS; i += POINTS) {
                int before = least[i + u];
                for (int j = 0; j < POINTS && before != FREE; j++) {
                    int after = least[v * POINTS + j];
                    if (after != FREE && before + c + after < least[i + j]) {
                        least[i + j] = before + c + after;
                    }
                }
            }
        }
    }

    /** A relation with its marks, and for each cube how it was reached (height 0 when it was not). */
    private static final class Relation {
        int places;
        int marks;
        final int[] markFirst = new int[MOST_MARKS];
        final int[] markSecond = new int[MOST_MARKS];
        final int[] markLimit = new int[MOST_MARKS];
        final int[] height = new int[MOST_CUBES];
        final int[] reason = new int[MOST_CUBES];
        final int[] firstPremise = new int[MOST_CUBES];
        final int[] secondPremise = new int[MOST_CUBES];

        int cubes() {
            return 1 << marks;
        }

        boolean areTwoCorners(int u, int v) {
            return isCorner(u) && isCorner(v) && u != v;
        }

        private boolean isCorner(int p) {
            return p == ZERO_CORNER || p >= 0 && p < places;
        }

        boolean canMark(int u, int v, int c) {
            return areTwoCorners(u, v) && isLimit(c);
        }

        boolean hasMark(int u, int v, int c) {
            for (int k = 0; k < marks; k++) {
                if (markFirst[k] == u && markSecond[k] == v && markLimit[k] == c) {
                    return true;
                }
            }
            return false;
        }

        void addMark(int u, int v, int c) {
            markFirst[marks] = u;
            markSecond[marks] = v;
            markLimit[marks] = c;
            marks++;
        }

        void forgetStates() {
            for (int cube = 0; cube < MOST_CUBES; cube++) {
                height[cube] = 0;
            }
        }

        /** Adds what a cube allows for the variables x and y at the places. */
        void restrict(BoundSet set, int cube, int x, int y) {
            for (int k = 0; k < marks; k++) {
                int u = pointAt(markFirst[k], x, y);
                int v = pointAt(markSecond[k], x, y);
                if ((cube >> k & 1) == 1) {
                    set.add(u, v, markLimit[k]);
                } else {
                    set.add(v, u, -markLimit[k] - 1);
                }
            }
        }
    }

    /** A relation (NONE for FALSE) with the variables at its places. */
    private static final class Literal {
        int relation;
        int x;
        int y;

        int point(int corner) {
            return pointAt(corner, x, y);
        }
    }

    private static final class Clause {
        final Literal head = new Literal();
        final Literal[] body = new Literal[MOST_ATOMS];
        int atoms;
        final BoundSet own = new BoundSet();
        int bounds;

        Clause() {
            for (int a = 0; a < MOST_ATOMS; a++) {
                body[a] = new Literal();
            }
        }

        int premise(int atom, int pair) {
            if (atom >= atoms) {
                return NONE;
            }
            return atom == 0 ? pair / MOST_CUBES : pair % MOST_CUBES;
        }
    }

    private static final class Node {
        int rule;
        int parent;
        /** Which atom of the parent it stands for. */
        int atom;
        int cube;
        /** The bounds of the node and all below it, on its own points. */
        final BoundSet below = new BoundSet();

        void fill(int rule, int parent, int atom, int cube) {
            this.rule = rule;
            this.parent = parent;
            this.atom = atom;
            this.cube = cube;
        }
    }

    /** The tree of an alarm; one node more than is shown, which tells that there are too many. */
    private static final class Tree {
        final Node[] nodes = new Node[MOST_NODES + 1];
        int size;
        /** Children that have no number yet, the next one last. */
        final int[] waitingParent = new int[MOST_ATOMS * (MOST_NODES + 1)];
        final int[] waitingAtom = new int[MOST_ATOMS * (MOST_NODES + 1)];
        final int[] waitingCube = new int[MOST_ATOMS * (MOST_NODES + 1)];
        int waiting;

        Tree() {
            for (int k = 0; k <= MOST_NODES; k++) {
                nodes[k] = new Node();
            }
        }

        /** Counts the node filled last; its children wait before all that waited so far. */
        void number(Clause rule, int first, int second) {
            if (rule.atoms == 2) {
                postpone(size, 1, second);
            }
            if (rule.atoms >= 1) {
                postpone(size, 0, first);
            }
            size++;
        }

        private void postpone(int parent, int atom, int cube) {
            waitingParent[waiting] = parent;
            waitingAtom[waiting] = atom;
            waitingCube[waiting] = cube;
            waiting++;
        }
    }
}
