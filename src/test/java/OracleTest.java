import java.util.ArrayList;
import java.util.Arrays;
import java.util.List;
import java.util.NoSuchElementException;
import java.util.Random;

/**
 * Makes long runs of calls on a ClauseDesk and on a plain desk that follows the document word by
 * word (whole sets of bounds, one search for a negative cycle each), and compares every answer.
 * The seeds are written down, so every run is the same each time.
 */
public final class OracleTest {
    private static final int RUNS = 6000;
    private static final int MOST_CALLS = 512;
    private static final String[] OUTCOMES = {
        "verdict 1", "verdict 2", "verdict 3", "tree over 40", "tree of 10 or more", "refined 3 times",
        "marks full", "height 4 or more", "two premises", "empty cube", "check found a clause",
        "refused by argument", "refused by state", "refused as not found", "refused as arithmetic",
    };

    private static int wrong = 0;
    private static final int[] seen = new int[OUTCOMES.length];

    private OracleTest() {
    }

    public static void main(String[] args) {
        for (int seed = 0; seed < RUNS && wrong == 0; seed++) {
            new Run(seed).play();
        }
        for (int i = 0; i < OUTCOMES.length && wrong == 0; i++) {
            if (seen[i] < 20) {
                wrong++;
                System.out.println("the runs hardly ever met: " + OUTCOMES[i] + " (" + seen[i] + ")");
            }
        }
        if (wrong != 0) {
            System.exit(1);
        }
    }

    private static void saw(String outcome) {
        seen[Arrays.asList(OUTCOMES).indexOf(outcome)]++;
    }

    /** One run: both desks, the calls made so far, and where the numbers come from. */
    private static final class Run {
        private final int seed;
        private final Random random;
        private final ClauseDesk desk = new ClauseDesk();
        private final PlainDesk plain = new PlainDesk();
        private final StringBuilder calls = new StringBuilder();
        private final int spread;
        private int made = 0;

        Run(int seed) {
            this.seed = seed;
            this.random = new Random(seed);
            this.spread = new int[] {2, 4, 12, 1000}[seed % 4];
        }

        void play() {
            int relations = 1 + random.nextInt(3);
            for (int i = 0; i < relations; i++) {
                call("relation", 1 + random.nextInt(2));
            }
            if (random.nextInt(3) == 0) {
                for (int i = random.nextInt(5); i > 0; i--) {
                    callMark();
                }
            }
            if (random.nextInt(6) == 0) {
                layLadder();
            }
            if (random.nextInt(5) == 0) {
                layClause(-1);
            }
            if (seed % 3 != 0) {
                laySystem(random.nextInt(relations), random.nextInt(relations));
            } else {
                for (int i = 2 + random.nextInt(6); i > 0; i--) {
                    layClause(random.nextInt(relations));
                }
                layClause(-1);
            }
            while (made < MOST_CALLS - 80 && wrong == 0) {
                callAny();
            }
            look();
        }

        /** Two premises a step: heights of five and more, trees beyond forty nodes. */
        private void layLadder() {
            int r = plain.relations.size();
            call("relation", 1);
            for (int c = 0; c < 4; c++) {
                call("mark", r, 0, 2, c);
            }
            call("clause", r, 0, 0);
            call("bound", 0, 5, 0);
            call("clause", r, 1, 0);
            call("atom", r, 0, 0);
            call("atom", r, 0, 0);
            call("bound", 1, 0, 1);
            call("bound", 0, 1, -1);
            call("clause", -1, 0, 0);
            call("atom", r, 0, 0);
            call("atom", r, 1, 0);
            call("bound", 5, 0, -random.nextInt(8));
            call("bound", 5, 1, -random.nextInt(8));
        }

        /** Something that begins, goes on by steps, is handed over, and must not come too far. */
        private void laySystem(int r, int s) {
            call("clause", r, 0, 1);
            layEquation(0, 5);
            if (random.nextInt(3) != 0) {
                layEquation(1, random.nextInt(2) == 0 ? 0 : 5);
            }
            for (int i = 1 + random.nextInt(2); i > 0; i--) {
                call("clause", r, 2, 3);
                call("atom", r, 0, 1);
                layEquation(2, random.nextInt(5) == 0 ? 1 : 0);
                layEquation(3, random.nextInt(5) == 0 ? 0 : 1);
                callBound();
                if (random.nextInt(4) == 0) {
                    call("atom", s, random.nextInt(4), random.nextInt(5));
                }
            }
            if (r != s) {
                call("clause", s, random.nextInt(2), random.nextInt(2));
                call("atom", r, 0, 1);
                callBound();
            }
            call("clause", -1, 0, 0);
            call("atom", s, 0, 1);
            if (random.nextInt(2) == 0) {
                call("atom", r, random.nextInt(2), 2);
            }
            callBound();
            call("bound", 5, random.nextInt(2), -random.nextInt(3 * spread + 1));
        }

        private void layEquation(int u, int v) {
            int c = random.nextInt(7) - 3;
            call("bound", u, v, c);
            call("bound", v, u, -c);
        }

        private void layClause(int head) {
            call("clause", head, random.nextInt(5), random.nextInt(5));
            int atoms = head == -1 ? 1 + random.nextInt(2) : random.nextInt(3);
            for (int a = 0; a < atoms; a++) {
                call("atom", random.nextInt(plain.relations.size()), random.nextInt(5), random.nextInt(5));
            }
            for (int i = random.nextInt(5); i > 0; i--) {
                if (random.nextInt(3) == 0) {
                    layEquation(random.nextInt(5), random.nextInt(5));
                } else {
                    callBound();
                }
            }
        }

        private void callBound() {
            int u = random.nextInt(6);
            int v = random.nextInt(3) == 0 ? 5 : random.nextInt(6);
            call("bound", u, v, limit());
        }

        private void callMark() {
            call("mark", random.nextInt(plain.relations.size()), random.nextInt(3), random.nextInt(3), limit());
        }

        private int limit() {
            return random.nextInt(2 * spread + 1) - spread - (random.nextInt(60) == 0 ? 1 : 0);
        }

        private void callAny() {
            int dice = random.nextInt(100);
            if (dice < 22) {
                call("round");
            } else if (dice < 34) {
                call("refine");
            } else if (dice < 40) {
                call("verify", random.nextInt(6) == 0 ? 100 : random.nextInt(8) - 1);
            } else if (dice < 41) {
                call("start");
            } else if (dice < 48) {
                call("check");
            } else if (dice < 56) {
                call("follows", random.nextInt(14) - 1, random.nextInt(8) - 1, random.nextInt(8) - 1);
            } else if (dice < 62) {
                call("state", random.nextInt(9) - 1);
            } else if (dice < 66) {
                call("shown", random.nextInt(6) - 1, random.nextInt(6) - 1, random.nextInt(5) - 1);
            } else if (dice < 74) {
                call("cube", random.nextInt(6) - 1, random.nextInt(18) - 1, random.nextInt(7) - 1);
            } else if (dice < 84) {
                int k = random.nextInt(5) == 0 ? random.nextInt(45) - 2 : random.nextInt(8);
                call("node", k, random.nextInt(5) - 1);
            } else if (dice < 97) {
                look();
            } else {
                callMaker();
            }
        }

        private void callMaker() {
            int dice = random.nextInt(10);
            if (dice == 0) {
                call("relation", random.nextInt(4));
            } else if (dice < 3) {
                call("mark", random.nextInt(6) - 1, random.nextInt(5) - 1, random.nextInt(5) - 1, limit());
            } else if (dice < 5) {
                call("clause", random.nextInt(6) - 2, random.nextInt(7) - 1, random.nextInt(7) - 1);
            } else if (dice < 7) {
                call("atom", random.nextInt(6) - 2, random.nextInt(7) - 1, random.nextInt(7) - 1);
            } else {
                call("bound", random.nextInt(8) - 1, random.nextInt(8) - 1, limit());
            }
        }

        /** Looks at what the last calls may have changed, a few numbers at a time. */
        private void look() {
            for (int what = 2; what <= 6; what++) {
                call("state", what);
            }
            int r = random.nextInt(plain.relations.size());
            int cube = random.nextInt(1 << plain.relations.get(r).marks.size());
            for (int what = 0; what <= 4; what++) {
                call("cube", r, cube, what);
            }
            int k = random.nextInt(4);
            for (int what = 0; what <= 2; what++) {
                call("shown", r, k, what);
                call("node", random.nextInt(Math.max(1, plain.nodeCount())), what);
            }
            call("check");
        }

        private void call(String name, int... with) {
            if (wrong != 0) {
                return;
            }
            made++;
            String due = plain.answer(name, with);
            String got = answer(name, with);
            calls.append(name).append(Arrays.toString(with)).append(" -> ").append(due).append('\n');
            note(name, with, due);
            if (!due.equals(got)) {
                wrong++;
                System.out.println("seed " + seed + ", the last call answered " + got + ":\n" + calls);
            }
        }

        private String answer(String name, int[] a) {
            try {
                return String.valueOf(dispatch(name, a));
            } catch (RuntimeException e) {
                return e.getClass().getSimpleName();
            }
        }

        private int dispatch(String name, int[] a) {
            switch (name) {
                case "relation": return desk.relation(a[0]);
                case "mark": return desk.mark(a[0], a[1], a[2], a[3]);
                case "clause": return desk.clause(a[0], a[1], a[2]);
                case "atom": return desk.atom(a[0], a[1], a[2]);
                case "bound": return desk.bound(a[0], a[1], a[2]);
                case "round": return desk.round();
                case "refine": return desk.refine();
                case "verify": return desk.verify(a[0]);
                case "start": desk.start(); return 0;
                case "check": return desk.check();
                case "follows": return desk.follows(a[0], a[1], a[2]);
                case "state": return desk.state(a[0]);
                case "shown": return desk.shown(a[0], a[1], a[2]);
                case "cube": return desk.cube(a[0], a[1], a[2]);
                default: return desk.node(a[0], a[1]);
            }
        }

        private void note(String name, int[] a, String due) {
            switch (due) {
                case "IllegalArgumentException": saw("refused by argument"); return;
                case "IllegalStateException": saw("refused by state"); return;
                case "NoSuchElementException": saw("refused as not found"); return;
                case "ArithmeticException": saw("refused as arithmetic"); return;
                default: break;
            }
            int value = Integer.parseInt(due);
            if (name.equals("state") && a[0] == 2 && value > 0) {
                saw("verdict " + value);
            } else if (name.equals("state") && a[0] == 5 && value >= 10) {
                saw(value > 40 ? "tree over 40" : "tree of 10 or more");
            } else if (name.equals("state") && a[0] == 6 && value >= 3) {
                saw("refined 3 times");
            } else if (name.equals("shown") && a[1] == 3) {
                saw("marks full");
            } else if (name.equals("cube") && a[2] == 0 && value >= 4) {
                saw("height 4 or more");
            } else if (name.equals("cube") && a[2] == 3 && value >= 0) {
                saw("two premises");
            } else if (name.equals("cube") && a[2] == 4 && value == 0) {
                saw("empty cube");
            } else if (name.equals("check") && value >= 0) {
                saw("check found a clause");
            }
        }
    }

    /** u - v <= c, of points of any numbering. */
    private static final class Bound {
        final int u;
        final int v;
        final int c;

        Bound(int u, int v, int c) {
            this.u = u;
            this.v = v;
            this.c = c;
        }
    }

    /** Bounds on points 0 .. points - 1. */
    private static final class Bounds {
        final int points;
        final List<Bound> all = new ArrayList<>();

        Bounds(int points) {
            this.points = points;
        }

        void add(int u, int v, int c) {
            all.add(new Bound(u, v, c));
        }

        /** Numbers that obey all bounds, searched for by lowering from 0; null without any. */
        boolean holdTogether() {
            long[] value = new long[points];
            return settles(value);
        }

        /** The least c so that u - v <= c follows, null without one: how far u can be above v. */
        Long least(int u, int v) {
            long far = 1L << 40;
            long[] value = new long[points];
            Arrays.fill(value, far);
            value[v] = 0;
            settles(value);
            return value[u] > far / 2 ? null : Long.valueOf(value[u]);
        }

        private boolean settles(long[] value) {
            for (int turn = 0; turn <= points; turn++) {
                boolean changed = false;
                for (Bound b : all) {
                    if (value[b.u] > value[b.v] + b.c) {
                        value[b.u] = value[b.v] + b.c;
                        changed = true;
                    }
                }
                if (!changed) {
                    return true;
                }
            }
            return false;
        }
    }

    private static final class Atom {
        final int relation;
        final int[] variables;

        Atom(int relation, int... variables) {
            this.relation = relation;
            this.variables = variables;
        }

        int point(int corner) {
            return corner == 2 ? 5 : variables[corner];
        }
    }

    private static final class Rule {
        final Atom head;
        final List<Atom> body = new ArrayList<>();
        final List<Bound> bounds = new ArrayList<>();

        Rule(Atom head) {
            this.head = head;
        }
    }

    private static final class Reached {
        final int height;
        final int rule;
        final int[] premises;

        Reached(int height, int rule, int[] premises) {
            this.height = height;
            this.rule = rule;
            this.premises = premises;
        }
    }

    private static final class Rel {
        final int places;
        final List<Bound> marks = new ArrayList<>();
        Reached[] reached = new Reached[16];

        Rel(int places) {
            this.places = places;
        }

        List<Integer> corners() {
            return places == 1 ? List.of(0, 2) : List.of(0, 1, 2);
        }

        boolean isMark(int u, int v, int c) {
            return corners().contains(u) && corners().contains(v) && u != v && c >= -1000 && c <= 1000;
        }

        boolean hasMark(int u, int v, int c) {
            return marks.stream().anyMatch(m -> m.u == u && m.v == v && m.c == c);
        }
    }

    private static final class TreeNode {
        final int rule;
        final int parent;
        final int cube;
        final int atom;

        TreeNode(int rule, int parent, int cube, int atom) {
            this.rule = rule;
            this.parent = parent;
            this.cube = cube;
            this.atom = atom;
        }
    }

    /** The document, as plainly as can be. */
    private static final class PlainDesk {
        final List<Rel> relations = new ArrayList<>();
        private final List<Rule> rules = new ArrayList<>();
        private int rounds = 0;
        private int verdict = 0;
        private int alarm = -1;
        private final List<TreeNode> tree = new ArrayList<>();
        private int refined = 0;

        int nodeCount() {
            return Math.min(41, tree.size());
        }

        String answer(String name, int[] a) {
            try {
                return String.valueOf(dispatch(name, a));
            } catch (RuntimeException e) {
                return e.getClass().getSimpleName();
            }
        }

        private int dispatch(String name, int[] a) {
            switch (name) {
                case "relation": return relation(a[0]);
                case "mark": return mark(a[0], a[1], a[2], a[3]);
                case "clause": return clause(a[0], a[1], a[2]);
                case "atom": return atom(a[0], a[1], a[2]);
                case "bound": return bound(a[0], a[1], a[2]);
                case "round":
                    stateful(verdict == 0 && alarm == -1);
                    return round();
                case "refine":
                    stateful(verdict == 0 && alarm != -1);
                    return refine();
                case "verify": return verify(a[0]);
                case "start": fresh(); return 0;
                case "check": return check();
                case "follows": return follows(a[0], a[1], a[2]);
                case "state": return state(a[0]);
                case "shown": return shown(a[0], a[1], a[2]);
                case "cube": return cube(a[0], a[1], a[2]);
                default: return node(a[0], a[1]);
            }
        }

        private static void argument(boolean good) {
            if (!good) {
                throw new IllegalArgumentException();
            }
        }

        private static void stateful(boolean good) {
            if (!good) {
                throw new IllegalStateException();
            }
        }

        private static void found(boolean good) {
            if (!good) {
                throw new NoSuchElementException();
            }
        }

        private void fresh() {
            for (Rel r : relations) {
                r.reached = new Reached[16];
            }
            rounds = 0;
            alarm = -1;
            tree.clear();
            verdict = 0;
        }

        private int relation(int places) {
            argument(places == 1 || places == 2);
            stateful(relations.size() < 4);
            relations.add(new Rel(places));
            fresh();
            return relations.size() - 1;
        }

        private boolean isRelation(int r) {
            return r >= 0 && r < relations.size();
        }

        private int mark(int r, int u, int v, int c) {
            argument(isRelation(r) && relations.get(r).isMark(u, v, c));
            Rel rel = relations.get(r);
            stateful(rel.marks.size() < 4 && !rel.hasMark(u, v, c));
            rel.marks.add(new Bound(u, v, c));
            fresh();
            return rel.marks.size() - 1;
        }

        private Atom toAtom(int r, int x, int y) {
            argument(isRelation(r) && x >= 0 && x <= 4);
            if (relations.get(r).places == 1) {
                return new Atom(r, x);
            }
            argument(y >= 0 && y <= 4);
            return new Atom(r, x, y);
        }

        private int clause(int r, int x, int y) {
            Atom head = r == -1 ? new Atom(-1) : toAtom(r, x, y);
            stateful(rules.size() < 12);
            rules.add(new Rule(head));
            fresh();
            return rules.size() - 1;
        }

        private int atom(int r, int x, int y) {
            Atom atom = toAtom(r, x, y);
            stateful(!rules.isEmpty() && rules.get(rules.size() - 1).body.size() < 2);
            Rule last = rules.get(rules.size() - 1);
            last.body.add(atom);
            fresh();
            return last.body.size() - 1;
        }

        private static boolean areTwo(int u, int v) {
            return u >= 0 && u <= 5 && v >= 0 && v <= 5 && u != v;
        }

        private int bound(int u, int v, int c) {
            argument(areTwo(u, v) && c >= -1000 && c <= 1000);
            stateful(!rules.isEmpty() && rules.get(rules.size() - 1).bounds.size() < 8);
            Rule last = rules.get(rules.size() - 1);
            last.bounds.add(new Bound(u, v, c));
            fresh();
            return last.bounds.size();
        }

        private void allow(Bounds set, Atom atom, int cube) {
            List<Bound> marks = relations.get(atom.relation).marks;
            for (int k = 0; k < marks.size(); k++) {
                Bound m = marks.get(k);
                if ((cube >> k) % 2 == 1) {
                    set.add(atom.point(m.u), atom.point(m.v), m.c);
                } else {
                    set.add(atom.point(m.v), atom.point(m.u), -m.c - 1);
                }
            }
        }

        /** Whether a clause with these premises (and a head's cube, or -1 for none) holds together. */
        private boolean holds(Rule rule, int[] premises, int headCube) {
            Bounds set = new Bounds(6);
            set.all.addAll(rule.bounds);
            for (int a = 0; a < premises.length; a++) {
                allow(set, rule.body.get(a), premises[a]);
            }
            if (headCube != -1) {
                allow(set, rule.head, headCube);
            }
            return set.holdTogether();
        }

        /** All choices of states of heights up to the rounds made, least first. */
        private List<int[]> choices(Rule rule) {
            List<int[]> done = new ArrayList<>();
            done.add(new int[0]);
            for (Atom atom : rule.body) {
                List<int[]> longer = new ArrayList<>();
                for (int[] before : done) {
                    for (int cube = 0; cube < 16; cube++) {
                        Reached state = relations.get(atom.relation).reached[cube];
                        if (state != null && state.height <= rounds) {
                            int[] more = Arrays.copyOf(before, before.length + 1);
                            more[before.length] = cube;
                            longer.add(more);
                        }
                    }
                }
                done = longer;
            }
            return done;
        }

        private int round() {
            for (int k = 0; k < rules.size() && alarm == -1; k++) {
                if (rules.get(k).head.relation == -1) {
                    for (int[] premises : choices(rules.get(k))) {
                        if (alarm == -1 && holds(rules.get(k), premises, -1)) {
                            alarm = k;
                            grow(k, -1, -1, 0, premises);
                        }
                    }
                }
            }
            int count = 0;
            for (int r = 0; r < relations.size() && alarm == -1; r++) {
                for (int cube = 0; cube < 1 << relations.get(r).marks.size(); cube++) {
                    if (relations.get(r).reached[cube] == null) {
                        relations.get(r).reached[cube] = reach(r, cube);
                        count += relations.get(r).reached[cube] == null ? 0 : 1;
                    }
                }
            }
            if (count == 0 && alarm == -1) {
                verdict = 1;
            }
            rounds++;
            return count;
        }

        private Reached reach(int r, int cube) {
            for (int k = 0; k < rules.size(); k++) {
                if (rules.get(k).head.relation == r) {
                    for (int[] premises : choices(rules.get(k))) {
                        if (holds(rules.get(k), premises, cube)) {
                            return new Reached(rounds + 1, k, premises);
                        }
                    }
                }
            }
            return null;
        }

        private void grow(int rule, int parent, int cube, int atom, int[] premises) {
            int number = tree.size();
            if (number > 60) {
                return;
            }
            tree.add(new TreeNode(rule, parent, cube, atom));
            for (int a = 0; a < premises.length; a++) {
                Reached state = relations.get(rules.get(rule).body.get(a).relation).reached[premises[a]];
                grow(state.rule, number, premises[a], a, state.premises);
            }
        }

        /** Of node k and all below it: variable x of node n is point 6 n + x, ZERO is point 5. */
        private Bounds below(int k) {
            Bounds set = new Bounds(6 * tree.size());
            boolean[] in = new boolean[tree.size()];
            for (int n = k; n < tree.size(); n++) {
                TreeNode node = tree.get(n);
                in[n] = n == k || node.parent >= 0 && in[node.parent];
                if (!in[n]) {
                    continue;
                }
                for (Bound b : rules.get(node.rule).bounds) {
                    set.add(global(n, b.u), global(n, b.v), b.c);
                }
                if (n != k) {
                    Atom head = rules.get(node.rule).head;
                    Atom atom = rules.get(tree.get(node.parent).rule).body.get(node.atom);
                    for (int p = 0; p < head.variables.length; p++) {
                        set.add(global(n, head.point(p)), global(node.parent, atom.point(p)), 0);
                        set.add(global(node.parent, atom.point(p)), global(n, head.point(p)), 0);
                    }
                }
            }
            return set;
        }

        private static int global(int n, int point) {
            return point == 5 ? 5 : 6 * n + point;
        }

        private int refine() {
            if (tree.size() > 40) {
                verdict = 3;
                return 0;
            }
            if (below(0).holdTogether()) {
                verdict = 2;
                return 0;
            }
            int count = 0;
            for (int k = 1; k < tree.size(); k++) {
                count += marksOf(k);
            }
            if (count == 0) {
                verdict = 3;
            } else {
                refined++;
                fresh();
            }
            return count;
        }

        private int marksOf(int k) {
            Bounds set = below(k);
            if (!set.holdTogether()) {
                return 0;
            }
            Atom head = rules.get(tree.get(k).rule).head;
            Rel rel = relations.get(head.relation);
            int count = 0;
            for (int first : rel.corners()) {
                for (int second : rel.corners()) {
                    if (first == second || rel.marks.size() == 4) {
                        continue;
                    }
                    Long c = set.least(global(k, head.point(first)), global(k, head.point(second)));
                    if (c != null && Math.abs(c) <= 1000 && !rel.hasMark(first, second, (int) (long) c)) {
                        rel.marks.add(new Bound(first, second, (int) (long) c));
                        count++;
                    }
                }
            }
            return count;
        }

        private int verify(int fuel) {
            argument(fuel >= 0 && fuel <= 100);
            for (int step = 0; step < fuel && verdict == 0; step++) {
                if (alarm == -1) {
                    round();
                } else {
                    refine();
                }
            }
            return verdict;
        }

        private int check() {
            for (int k = 0; k < rules.size(); k++) {
                Rule rule = rules.get(k);
                for (int[] premises : choices(rule)) {
                    if (rule.head.relation == -1) {
                        if (holds(rule, premises, -1)) {
                            return k;
                        }
                        continue;
                    }
                    Rel rel = relations.get(rule.head.relation);
                    for (int cube = 0; cube < 1 << rel.marks.size(); cube++) {
                        if (rel.reached[cube] == null && holds(rule, premises, cube)) {
                            return k;
                        }
                    }
                }
            }
            return -1;
        }

        private int follows(int k, int u, int v) {
            argument(k >= 0 && k < rules.size() && areTwo(u, v));
            Bounds set = new Bounds(6);
            set.all.addAll(rules.get(k).bounds);
            if (!set.holdTogether()) {
                throw new ArithmeticException();
            }
            Long c = set.least(u, v);
            found(c != null);
            return (int) (long) c;
        }

        private int state(int what) {
            int[] all = {relations.size(), rules.size(), verdict, rounds, alarm, nodeCount(), refined};
            return what >= 0 && what < all.length ? all[what] : -1;
        }

        private int shown(int r, int k, int what) {
            argument(isRelation(r) && what >= 0 && what <= 2);
            found(k >= 0 && k < relations.get(r).marks.size());
            Bound m = relations.get(r).marks.get(k);
            return new int[] {m.u, m.v, m.c}[what];
        }

        private int cube(int r, int cube, int what) {
            argument(isRelation(r) && cube >= 0 && cube < 1 << relations.get(r).marks.size());
            argument(what >= 0 && what <= 4);
            if (what == 4) {
                Bounds set = new Bounds(6);
                allow(set, new Atom(r, 0, 1), cube);
                return set.holdTogether() ? 1 : 0;
            }
            Reached state = relations.get(r).reached[cube];
            if (state == null) {
                return what == 0 ? 0 : -1;
            }
            if (what < 2) {
                return what == 0 ? state.height : state.rule;
            }
            return what - 2 < state.premises.length ? state.premises[what - 2] : -1;
        }

        private int node(int k, int what) {
            argument(what >= 0 && what <= 2);
            found(k >= 0 && k < tree.size() && tree.size() <= 40);
            TreeNode node = tree.get(k);
            return new int[] {node.rule, node.parent, node.cube}[what];
        }
    }
}
