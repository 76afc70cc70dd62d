/** What can be seen of a desk, as texts that tests compare. */
final class Sight {
    /** A desk is used for at most 512 calls: whoever wants to see all of it takes a new one a part. */
    static final int PARTS = 3;

    private Sight() {
    }

    /** Relations, clauses, verdict, rounds, the alarm's clause, its nodes, refinings. */
    static String counts(ClauseDesk desk) {
        StringBuilder seen = new StringBuilder();
        for (int what = 0; what <= 6; what++) {
            seen.append(what == 0 ? "" : " ").append(desk.state(what));
        }
        return seen.toString();
    }

    /** The marks of a relation, as "0-2<=3 2-0<=-4". */
    static String marks(ClauseDesk desk, int r) {
        StringBuilder seen = new StringBuilder();
        for (int k = 0; isThere(desk, r, k); k++) {
            seen.append(k == 0 ? "" : " ").append(desk.shown(r, k, 0)).append('-').append(desk.shown(r, k, 1));
            seen.append("<=").append(desk.shown(r, k, 2));
        }
        return seen.toString();
    }

    private static boolean isThere(ClauseDesk desk, int r, int mark) {
        return !Bench.outcome(desk, d -> d.shown(r, mark, 0)).equals("NoSuchElementException");
    }

    private static boolean isCube(ClauseDesk desk, int r, int cube) {
        return !Bench.outcome(desk, d -> d.cube(r, cube, 0)).equals("IllegalArgumentException");
    }

    /** The states of a relation, as "cube:height/clause/first premise/second premise". */
    static String states(ClauseDesk desk, int r) {
        StringBuilder seen = new StringBuilder();
        for (int cube = 0; isCube(desk, r, cube); cube++) {
            if (desk.cube(r, cube, 0) != 0) {
                seen.append(seen.length() == 0 ? "" : " ").append(cube).append(':').append(desk.cube(r, cube, 0));
                for (int what = 1; what <= 3; what++) {
                    seen.append('/').append(desk.cube(r, cube, what));
                }
            }
        }
        return seen.toString();
    }

    /** The cubes of a relation that allow any numbers. */
    static String allowing(ClauseDesk desk, int r) {
        StringBuilder seen = new StringBuilder();
        for (int cube = 0; isCube(desk, r, cube); cube++) {
            if (desk.cube(r, cube, 4) == 1) {
                seen.append(seen.length() == 0 ? "" : " ").append(cube);
            }
        }
        return seen.toString();
    }

    /** The nodes of the alarm's tree, as "clause/parent/cube". */
    static String tree(ClauseDesk desk) {
        StringBuilder seen = new StringBuilder();
        for (int k = 0; k < Math.min(40, desk.state(5)); k++) {
            int node = k;
            seen.append(k == 0 ? "" : " ").append(Bench.outcome(desk, d -> d.node(node, 0)));
            seen.append('/').append(Bench.outcome(desk, d -> d.node(node, 1)));
            seen.append('/').append(Bench.outcome(desk, d -> d.node(node, 2)));
        }
        return seen.toString();
    }

    /** One of three parts of all that a desk shows, and of what it does when one goes on with it. */
    static String part(ClauseDesk desk, int part) {
        if (part == 0) {
            return relations(desk);
        }
        return part == 1 ? follows(desk) : treeAndGoingOn(desk);
    }

    private static String relations(ClauseDesk desk) {
        StringBuilder seen = new StringBuilder(counts(desk));
        for (int r = 0; r < desk.state(0); r++) {
            seen.append('\n').append(marks(desk, r)).append('\n').append(states(desk, r));
        }
        return seen.toString();
    }

    private static String follows(ClauseDesk desk) {
        StringBuilder seen = new StringBuilder();
        int clauses = desk.state(1);
        for (int i = 0; i < 36 * clauses; i++) {
            int k = i / 36;
            int u = i / 6 % 6;
            int v = i % 6;
            if (u != v) {
                seen.append(Bench.outcome(desk, d -> d.follows(k, u, v))).append(' ');
            }
        }
        return seen.toString();
    }

    private static String treeAndGoingOn(ClauseDesk desk) {
        StringBuilder seen = new StringBuilder(tree(desk));
        seen.append('\n').append(desk.check());
        for (int fuel = 1; fuel <= 3; fuel++) {
            seen.append('\n').append(desk.verify(fuel)).append(' ').append(counts(desk));
        }
        Bench.Call[] makers = {d -> d.atom(0, 0, 1), d -> d.bound(0, 1, 2), d -> d.mark(0, 0, 2, -777),
            d -> d.clause(-1, 0, 0), d -> d.relation(1)};
        for (Bench.Call maker : makers) {
            seen.append('\n').append(Bench.outcome(desk, maker));
        }
        return seen.append('\n').append(counts(desk)).toString();
    }
}
