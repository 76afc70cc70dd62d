import java.util.ArrayList;
import java.util.List;
import java.util.Random;

/**
 * Tries numbers instead of bounds. Every variable of these clauses is kept in a small range by its
 * bounds, so that whatever the document asks can be answered by trying all numbers: which cubes a
 * round reaches, whether the tree of an alarm holds together, which marks come of it, and in the end
 * whether what must not be is in the least relations. The seeds are written down.
 */
public final class MeaningTest {
    private static final int RUNS = 6000;
    private static final int ENOUGH = 100;
    private static final int LOW = -1;
    private static final int HIGH = 2;
    private static final int VALUES = HIGH - LOW + 1;
    private static final int VARIABLES = 3;
    private static final int ASSIGNMENTS = VALUES * VALUES * VALUES;
    private static final int TUPLES = VALUES * VALUES;
    private static final int SAFE = 1;
    private static final int UNSAFE = 2;
    private static final int UNKNOWN = 3;

    private static final int[] verdicts = new int[4];
    private static int refinings = 0;

    private MeaningTest() {
    }

    public static void main(String[] args) {
        for (int seed = 0; seed < RUNS; seed++) {
            World world = new World(new Random(seed));
            int fuel = seed % 2 == 0 ? ENOUGH : seed / 2 % 20;
            Trial trial = new Trial(world);
            trial.go(fuel);
            compare("seed " + seed + ", fuel " + fuel, world, trial, fuel);
            verdicts[trial.verdict]++;
            refinings += trial.refinings;
        }
        for (int verdict = 0; verdict < 4; verdict++) {
            Bench.due("the runs met verdict " + verdict + " often enough", verdicts[verdict] >= 50 ? 1 : 0, 1);
        }
        Bench.due("the runs refined often enough", refinings >= 500 ? 1 : 0, 1);
        Bench.finish();
    }

    private static void compare(String what, World world, Trial trial, int fuel) {
        ClauseDesk desk = world.made();
        Bench.due(what + ": verify", desk.verify(fuel), trial.verdict);
        Bench.due(what + ": counts", Sight.counts(desk), trial.counts());
        Bench.due(what + ": tree", Sight.tree(desk), trial.tree());
        for (int r = 0; r < world.places.length; r++) {
            Bench.due(what + ": marks of " + r, Sight.marks(desk, r), trial.marksOf(r));
            Bench.due(what + ": states of " + r, Sight.states(desk, r), trial.statesOf(r));
        }
        Least least = new Least(world);
        if (trial.verdict == SAFE) {
            Bench.due(what + ": SAFE, and the least relations", least.broken ? "break" : "hold", "hold");
            Bench.due(what + ": SAFE, and the check", desk.check(), -1);
            Bench.due(what + ": what is in the least relations", trial.allReached(least), "reached");
        }
        if (trial.verdict == UNSAFE) {
            Bench.due(what + ": UNSAFE, and the least relations", least.broken ? "break" : "hold", "break");
        }
    }

    /** Which value a variable has in an assignment; variable 5 is ZERO. */
    private static int value(int assignment, int variable) {
        if (variable == 5) {
            return 0;
        }
        int rest = assignment;
        for (int i = 0; i < variable; i++) {
            rest /= VALUES;
        }
        return LOW + rest % VALUES;
    }

    /** A relation, -1 for FALSE, with variables. */
    private static final class Literal {
        final int relation;
        final int x;
        final int y;

        Literal(int relation, int x, int y) {
            this.relation = relation;
            this.x = x;
            this.y = y;
        }

        /** The numbers at the places, as one; those of a relation with one place have x twice. */
        int tuple(World world, int assignment) {
            int second = world.places[relation] == 1 ? x : y;
            return (value(assignment, x) - LOW) * VALUES + value(assignment, second) - LOW;
        }
    }

    private static final class Rule {
        final Literal head;
        final List<Literal> body = new ArrayList<>();
        final List<int[]> bounds = new ArrayList<>();

        Rule(Literal head) {
            this.head = head;
        }

        boolean admits(int assignment) {
            for (int[] b : bounds) {
                if (value(assignment, b[0]) - value(assignment, b[1]) > b[2]) {
                    return false;
                }
            }
            return true;
        }
    }

    /** Relations, marks to begin with, and clauses. */
    private static final class World {
        final int[] places;
        final List<List<int[]>> marks = new ArrayList<>();
        final List<Rule> rules = new ArrayList<>();

        World(Random random) {
            places = new int[1 + random.nextInt(2)];
            for (int r = 0; r < places.length; r++) {
                places[r] = 1 + random.nextInt(2);
                marks.add(new ArrayList<>());
                if (random.nextInt(3) == 0) {
                    addMark(r, new int[] {random.nextInt(places[r]), 2, random.nextInt(5) - 2});
                }
            }
            int rules = 3 + random.nextInt(4);
            for (int k = 0; k < rules; k++) {
                addRule(random, k == rules - 1 || random.nextInt(6) == 0, k == 0 ? 0 : random.nextInt(3));
            }
        }

        private void addMark(int r, int[] mark) {
            marks.get(r).add(mark);
        }

        private void addRule(Random random, boolean isGoal, int atoms) {
            Rule rule = new Rule(isGoal ? new Literal(-1, 0, 0) : literal(random));
            for (int a = 0; a < (isGoal ? Math.max(1, atoms) : atoms); a++) {
                rule.body.add(literal(random));
            }
            for (int x = 0; x < VARIABLES; x++) {
                int spare = isGoal ? 0 : random.nextInt(VALUES);
                int below = random.nextInt(spare + 1);
                rule.bounds.add(new int[] {x, 5, HIGH - spare + below});
                rule.bounds.add(new int[] {5, x, -LOW - below});
            }
            for (int i = isGoal ? 2 : random.nextInt(3); i > 0; i--) {
                int u = random.nextInt(VARIABLES);
                int v = random.nextInt(4) == 0 ? 5 : (u + 1 + random.nextInt(VARIABLES - 1)) % VARIABLES;
                rule.bounds.add(new int[] {u, v, random.nextInt(4) - (isGoal ? 3 : 2)});
            }
            rules.add(rule);
        }

        private Literal literal(Random random) {
            return new Literal(random.nextInt(places.length), random.nextInt(VARIABLES), random.nextInt(VARIABLES));
        }

        ClauseDesk made() {
            ClauseDesk desk = Desks.relations(places);
            for (int r = 0; r < places.length; r++) {
                for (int[] m : marks.get(r)) {
                    desk.mark(r, m[0], m[1], m[2]);
                }
            }
            for (Rule rule : rules) {
                desk.clause(rule.head.relation, rule.head.x, rule.head.y);
                for (Literal atom : rule.body) {
                    desk.atom(atom.relation, atom.x, atom.y);
                }
                for (int[] b : rule.bounds) {
                    desk.bound(b[0], b[1], b[2]);
                }
            }
            return desk;
        }
    }

    /** The least relations that obey the clauses, and the round in which each of their tuples comes. */
    private static final class Least {
        final int[][] depth;
        boolean broken = false;

        Least(World world) {
            depth = new int[world.places.length][TUPLES];
            int found = 1;
            for (int round = 1; found > 0; round++) {
                found = 0;
                for (Rule rule : world.rules) {
                    found += apply(world, rule, round);
                }
            }
        }

        private int apply(World world, Rule rule, int round) {
            int found = 0;
            for (int a = 0; a < ASSIGNMENTS; a++) {
                boolean follows = rule.admits(a);
                for (Literal atom : rule.body) {
                    int before = depth[atom.relation][atom.tuple(world, a)];
                    follows = follows && before > 0 && before < round;
                }
                if (follows && rule.head.relation < 0) {
                    broken = true;
                } else if (follows && depth[rule.head.relation][rule.head.tuple(world, a)] == 0) {
                    depth[rule.head.relation][rule.head.tuple(world, a)] = round;
                    found++;
                }
            }
            return found;
        }
    }

    private static final class State {
        final int height;
        final int rule;
        final int[] premises;

        State(int height, int rule, int[] premises) {
            this.height = height;
            this.rule = rule;
            this.premises = premises;
        }

        /** Whether the clause and premises come before those of another. */
        boolean isLess(State other) {
            if (rule != other.rule) {
                return rule < other.rule;
            }
            for (int i = 0; i < premises.length; i++) {
                if (premises[i] != other.premises[i]) {
                    return premises[i] < other.premises[i];
                }
            }
            return false;
        }
    }

    private static final class Node {
        final State state;
        final int parent;
        final int cube;
        final List<Node> children = new ArrayList<>();

        Node(State state, int parent, int cube) {
            this.state = state;
            this.parent = parent;
            this.cube = cube;
        }
    }

    /** The search, by trying all numbers. */
    private static final class Trial {
        final World world;
        final List<List<int[]>> marks = new ArrayList<>();
        State[][] states;
        int rounds;
        int verdict = 0;
        int refinings = 0;
        State alarm;
        final List<Node> nodes = new ArrayList<>();

        Trial(World world) {
            this.world = world;
            for (List<int[]> given : world.marks) {
                marks.add(new ArrayList<>(given));
            }
            startAfresh();
        }

        void go(int fuel) {
            for (int step = 0; step < fuel && verdict == 0; step++) {
                if (alarm == null) {
                    round();
                } else {
                    refine();
                }
            }
        }

        private void startAfresh() {
            states = new State[world.places.length][16];
            rounds = 0;
            alarm = null;
            nodes.clear();
        }

        private int cubeOf(int r, int tuple) {
            int[] corners = {LOW + tuple / VALUES, LOW + tuple % VALUES, 0};
            int cube = 0;
            for (int k = 0; k < marks.get(r).size(); k++) {
                int[] m = marks.get(r).get(k);
                cube |= corners[m[0]] - corners[m[1]] <= m[2] ? 1 << k : 0;
            }
            return cube;
        }

        private void round() {
            rounds++;
            State[][] next = new State[states.length][16];
            State bad = null;
            for (int k = 0; k < world.rules.size(); k++) {
                Rule rule = world.rules.get(k);
                for (int a = 0; a < ASSIGNMENTS; a++) {
                    State reached = rule.admits(a) ? reachedBy(k, a) : null;
                    if (reached != null && rule.head.relation < 0) {
                        bad = bad == null || reached.isLess(bad) ? reached : bad;
                    } else if (reached != null) {
                        State[] row = next[rule.head.relation];
                        int cube = cubeOf(rule.head.relation, rule.head.tuple(world, a));
                        row[cube] = row[cube] == null || reached.isLess(row[cube]) ? reached : row[cube];
                    }
                }
            }
            if (bad != null) {
                alarm = bad;
                grow(bad, -1, -1);
            } else if (keepNew(next) == 0) {
                verdict = SAFE;
            }
        }

        /** What an assignment reaches by a clause, null when an atom's cube was not reached before. */
        private State reachedBy(int k, int assignment) {
            List<Literal> body = world.rules.get(k).body;
            int[] premises = new int[body.size()];
            for (int i = 0; i < premises.length; i++) {
                int r = body.get(i).relation;
                premises[i] = cubeOf(r, body.get(i).tuple(world, assignment));
                if (states[r][premises[i]] == null) {
                    return null;
                }
            }
            return new State(rounds, k, premises);
        }

        private int keepNew(State[][] next) {
            int kept = 0;
            for (int r = 0; r < states.length; r++) {
                for (int cube = 0; cube < 16; cube++) {
                    if (states[r][cube] == null && next[r][cube] != null) {
                        states[r][cube] = next[r][cube];
                        kept++;
                    }
                }
            }
            return kept;
        }

        private Node grow(State state, int parent, int cube) {
            Node node = new Node(state, parent, cube);
            int number = nodes.size();
            nodes.add(node);
            for (int i = 0; i < state.premises.length && nodes.size() <= 40; i++) {
                int r = world.rules.get(state.rule).body.get(i).relation;
                node.children.add(grow(states[r][state.premises[i]], number, state.premises[i]));
            }
            return node;
        }

        private void refine() {
            if (nodes.size() > 40) {
                verdict = UNKNOWN;
            } else if (hasSolution(nodes.get(0))) {
                verdict = UNSAFE;
            } else {
                int came = 0;
                for (Node node : nodes.subList(1, nodes.size())) {
                    came += marksBy(node);
                }
                if (came == 0) {
                    verdict = UNKNOWN;
                } else {
                    refinings++;
                    startAfresh();
                }
            }
        }

        private boolean hasSolution(Node root) {
            List<boolean[]> below = solutionsOfChildren(root);
            for (int a = 0; a < ASSIGNMENTS; a++) {
                if (solves(root, a, below)) {
                    return true;
                }
            }
            return false;
        }

        private boolean solves(Node node, int assignment, List<boolean[]> below) {
            Rule rule = world.rules.get(node.state.rule);
            boolean solved = rule.admits(assignment);
            for (int i = 0; i < below.size(); i++) {
                solved = solved && below.get(i)[rule.body.get(i).tuple(world, assignment)];
            }
            return solved;
        }

        private List<boolean[]> solutionsOfChildren(Node node) {
            List<boolean[]> below = new ArrayList<>();
            for (Node child : node.children) {
                below.add(solutions(child));
            }
            return below;
        }

        /** The tuples for the head that the bounds of the node and all below it leave. */
        private boolean[] solutions(Node node) {
            boolean[] tuples = new boolean[TUPLES];
            List<boolean[]> below = solutionsOfChildren(node);
            for (int a = 0; a < ASSIGNMENTS; a++) {
                if (solves(node, a, below)) {
                    tuples[world.rules.get(node.state.rule).head.tuple(world, a)] = true;
                }
            }
            return tuples;
        }

        private int marksBy(Node node) {
            int r = world.rules.get(node.state.rule).head.relation;
            boolean[] tuples = solutions(node);
            int came = 0;
            for (int first = 0; first < 3; first++) {
                for (int second = 0; second < 3; second++) {
                    boolean isPair = first != second && isCorner(r, first) && isCorner(r, second);
                    int most = isPair ? mostBetween(tuples, first, second) : Integer.MIN_VALUE;
                    int[] mark = {first, second, most};
                    if (most != Integer.MIN_VALUE && marks.get(r).size() < 4 && !isMark(r, mark)) {
                        marks.get(r).add(mark);
                        came++;
                    }
                }
            }
            return came;
        }

        private boolean isCorner(int r, int corner) {
            return corner == 2 || corner < world.places[r];
        }

        private boolean isMark(int r, int[] mark) {
            for (int[] m : marks.get(r)) {
                if (m[0] == mark[0] && m[1] == mark[1] && m[2] == mark[2]) {
                    return true;
                }
            }
            return false;
        }

        /** The greatest first - second, which is the least c that follows; none without a tuple. */
        private static int mostBetween(boolean[] tuples, int first, int second) {
            int most = Integer.MIN_VALUE;
            for (int tuple = 0; tuple < TUPLES; tuple++) {
                int[] corners = {LOW + tuple / VALUES, LOW + tuple % VALUES, 0};
                if (tuples[tuple]) {
                    most = Math.max(most, corners[first] - corners[second]);
                }
            }
            return most;
        }

        String allReached(Least least) {
            for (int r = 0; r < states.length; r++) {
                for (int tuple = 0; tuple < TUPLES; tuple++) {
                    State state = states[r][cubeOf(r, tuple)];
                    int depth = least.depth[r][tuple];
                    if (depth > 0 && (state == null || state.height > depth)) {
                        return "not reached in time: " + r + ", " + tuple;
                    }
                }
            }
            return "reached";
        }

        String counts() {
            return world.places.length + " " + world.rules.size() + " " + verdict + " " + rounds + " "
                    + (alarm == null ? -1 : alarm.rule) + " " + nodes.size() + " " + refinings;
        }

        String tree() {
            List<String> seen = new ArrayList<>();
            for (Node node : nodes) {
                seen.add(node.state.rule + "/" + node.parent + "/" + node.cube);
            }
            return nodes.size() > 40 ? "NoSuchElementException/NoSuchElementException/NoSuchElementException "
                    .repeat(40).strip() : String.join(" ", seen);
        }

        String marksOf(int r) {
            List<String> seen = new ArrayList<>();
            for (int[] m : marks.get(r)) {
                seen.add(m[0] + "-" + m[1] + "<=" + m[2]);
            }
            return String.join(" ", seen);
        }

        String statesOf(int r) {
            List<String> seen = new ArrayList<>();
            for (int cube = 0; cube < 16; cube++) {
                State s = states[r][cube];
                if (s != null) {
                    seen.add(cube + ":" + s.height + "/" + s.rule + "/" + (s.premises.length > 0 ? s.premises[0] : -1)
                            + "/" + (s.premises.length > 1 ? s.premises[1] : -1));
                }
            }
            return String.join(" ", seen);
        }
    }
}
