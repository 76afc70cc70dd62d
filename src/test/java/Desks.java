/** Desks that tests begin with. */
final class Desks {
    private Desks() {
    }

    /** The latest clause gets u = v + c. */
    static void equation(ClauseDesk desk, int u, int v, int c) {
        desk.bound(u, v, c);
        desk.bound(v, u, -c);
    }

    /** Relations 0, 1, .. with so many places. */
    static ClauseDesk relations(int... places) {
        ClauseDesk desk = new ClauseDesk();
        for (int p : places) {
            desk.relation(p);
        }
        return desk;
    }

    /** p(0); p(x + 1) if p(x) and x <= most; it must not be that p(x) and x >= bad. */
    static ClauseDesk counter(int most, int bad) {
        ClauseDesk desk = relations(1);
        desk.clause(0, 0, 0);
        equation(desk, 0, 5, 0);
        desk.clause(0, 1, 0);
        desk.atom(0, 0, 0);
        equation(desk, 1, 0, 1);
        desk.bound(0, 5, most);
        desk.clause(-1, 0, 0);
        desk.atom(0, 0, 0);
        desk.bound(5, 0, -bad);
        return desk;
    }

    /** Neither a verdict nor an alarm, but a state: x of any size, after one round. */
    static ClauseDesk counterUnderWay() {
        ClauseDesk desk = counter(9, 11);
        desk.round();
        return desk;
    }

    static ClauseDesk counterWithAlarm() {
        ClauseDesk desk = counter(9, 11);
        desk.round();
        desk.round();
        return desk;
    }

    /** SAFE after two rounds, by the mark x <= 10: cube 1 in the first, cube 0 never. */
    static ClauseDesk safeCounter() {
        ClauseDesk desk = counter(9, 11);
        desk.mark(0, 0, 2, 10);
        desk.verify(100);
        return desk;
    }

    static ClauseDesk unsafeCounter() {
        ClauseDesk desk = counter(9, 1);
        desk.verify(100);
        return desk;
    }

    /** Its four marks are x <= 0, x >= 0, x <= 1, x >= 1, which is not enough; the alarm stays. */
    static ClauseDesk unknownCounter() {
        ClauseDesk desk = counter(9, 11);
        desk.verify(100);
        return desk;
    }

    /** Desk number 0 .. 5: new, under way, with an alarm, SAFE, UNSAFE, UNKNOWN. */
    static ClauseDesk inSituation(int number) {
        switch (number) {
            case 0: return new ClauseDesk();
            case 1: return counterUnderWay();
            case 2: return counterWithAlarm();
            case 3: return safeCounter();
            case 4: return unsafeCounter();
            default: return unknownCounter();
        }
    }

    /** The relation's marks x <= 0 .. x <= 3: the cubes of x = 0, 1, 2, 3 and more are 15, 14, 12, 8, 0. */
    static void markSteps(ClauseDesk desk, int r) {
        for (int c = 0; c < 4; c++) {
            desk.mark(r, 0, 2, c);
        }
    }

    /**
     * Marks x <= 0 .. x <= 3; p(0); p(x + 1) if p(x) and p(x): the cube of x >= 4 has a tree of 31
     * nodes, that of x = 2 one of 7. q(x) if p(x) and x = 2: 8 nodes. s(x) if q(x): 9 nodes.
     */
    static ClauseDesk ladder() {
        ClauseDesk desk = relations(1, 1, 1);
        markSteps(desk, 0);
        desk.clause(0, 0, 0);
        equation(desk, 0, 5, 0);
        desk.clause(0, 1, 0);
        desk.atom(0, 0, 0);
        desk.atom(0, 0, 0);
        equation(desk, 1, 0, 1);
        desk.clause(1, 0, 0);
        desk.atom(0, 0, 0);
        equation(desk, 0, 5, 2);
        desk.clause(2, 0, 0);
        desk.atom(1, 0, 0);
        return desk;
    }

    /**
     * An alarm of p(x) and q(y) (relation 1) has 1 + 31 + 8 nodes, of p(x) and s(y) (relation 2)
     * 1 + 31 + 9; y is 2, and the tree holds together if that is at most the limit.
     */
    static ClauseDesk ladderWithAlarm(int relation, int limit) {
        ClauseDesk desk = ladder();
        desk.clause(-1, 0, 0);
        desk.atom(0, 0, 0);
        desk.atom(relation, 1, 0);
        desk.bound(5, 0, -4);
        desk.bound(1, 5, limit);
        desk.verify(6);
        return desk;
    }

    /** Four ladders, each on top of the other, each step with two premises: a tree beyond all counting. */
    static ClauseDesk hugeTree() {
        ClauseDesk desk = relations(1, 1, 1, 1);
        for (int r = 0; r < 4; r++) {
            markSteps(desk, r);
            desk.clause(r, 0, 0);
            equation(desk, 0, 5, 0);
            if (r > 0) {
                desk.atom(r - 1, 1, 0);
                desk.atom(r - 1, 2, 0);
                desk.bound(5, 1, -4);
                desk.bound(5, 2, -4);
            }
            desk.clause(r, 1, 0);
            desk.atom(r, 0, 0);
            desk.atom(r, 0, 0);
            equation(desk, 1, 0, 1);
        }
        desk.clause(-1, 0, 0);
        desk.atom(3, 0, 0);
        desk.bound(5, 0, -4);
        desk.verify(21);
        return desk;
    }

    /**
     * Four ladders of one premise a step, r(x, z): z begins with 0 and gets twice the stride with
     * each of 18 steps. It must not be that r(3, z), r(3, w) and z - w <= difference, where both are
     * 36 strides: 1 + 19 + 19 nodes.
     */
    static ClauseDesk farLadder(int stride, int difference) {
        ClauseDesk desk = relations(2, 2, 2, 2);
        for (int r = 0; r < 4; r++) {
            markSteps(desk, r);
            layFarSteps(desk, r, stride);
        }
        desk.clause(-1, 0, 0);
        desk.atom(3, 0, 1);
        desk.atom(3, 2, 3);
        equation(desk, 0, 5, 3);
        equation(desk, 2, 5, 3);
        desk.bound(1, 3, difference);
        desk.verify(20);
        return desk;
    }

    private static void layFarSteps(ClauseDesk desk, int r, int stride) {
        desk.clause(r, 2, 3);
        equation(desk, 2, 5, 0);
        if (r == 0) {
            equation(desk, 3, 5, 0);
        } else {
            desk.atom(r - 1, 0, 1);
            desk.bound(5, 0, -4);
            equation(desk, 3, 4, stride);
            equation(desk, 4, 1, stride);
        }
        desk.clause(r, 2, 3);
        desk.atom(r, 0, 1);
        equation(desk, 2, 0, 1);
        equation(desk, 3, 4, stride);
        equation(desk, 4, 1, stride);
    }

    /**
     * Three relations p(x, y) with the marks x <= 0, x <= 1, y <= 0, y <= 1 are walked through, cube
     * by cube, in 27 rounds; q(x) if x <= 0, q(x + 1) if q(x) and x <= 9; it must not be that the end
     * is reached and q(x) with x >= 11. Each alarm comes in round 28 and gives one mark, four times.
     */
    static ClauseDesk longSearch() {
        ClauseDesk desk = relations(2, 2, 2, 1);
        for (int r = 0; r < 3; r++) {
            for (int k = 0; k < 4; k++) {
                desk.mark(r, k / 2, 2, k % 2);
            }
            layWalk(desk, r);
        }
        desk.clause(3, 0, 0);
        desk.bound(0, 5, 0);
        desk.clause(3, 1, 0);
        desk.atom(3, 0, 0);
        equation(desk, 1, 0, 1);
        desk.bound(0, 5, 9);
        desk.clause(-1, 0, 0);
        desk.atom(2, 0, 1);
        desk.atom(3, 2, 0);
        desk.bound(5, 0, -2);
        desk.bound(5, 1, -2);
        desk.bound(5, 2, -11);
        return desk;
    }

    private static void layWalk(ClauseDesk desk, int r) {
        desk.clause(r, 0, 1);
        equation(desk, 0, 5, 0);
        equation(desk, 1, 5, 0);
        if (r > 0) {
            desk.atom(r - 1, 2, 3);
            desk.bound(5, 2, -2);
            desk.bound(5, 3, -2);
        }
        desk.clause(r, 2, 1);
        desk.atom(r, 0, 1);
        desk.bound(0, 5, 1);
        equation(desk, 2, 0, 1);
        desk.clause(r, 2, 3);
        desk.atom(r, 0, 1);
        desk.bound(5, 0, -2);
        equation(desk, 2, 5, 0);
        equation(desk, 3, 1, 1);
    }

    /**
     * As much as there may be: four relations, four marks of relation 0, twelve clauses, two atoms
     * and eight bounds of the last one. Two steps lead to states, three to an alarm, four to UNSAFE.
     */
    static ClauseDesk full(int steps) {
        ClauseDesk desk = relations(1, 2, 1, 2);
        markSteps(desk, 0);
        desk.clause(0, 0, 0);
        equation(desk, 0, 5, 0);
        desk.clause(0, 1, 0);
        desk.atom(0, 0, 0);
        equation(desk, 1, 0, 1);
        for (int k = 2; k < 11; k++) {
            desk.clause(1, k % 5, 4 - k % 5);
            desk.atom(0, 2, 0);
        }
        desk.clause(-1, 0, 0);
        desk.atom(0, 0, 0);
        desk.atom(1, 1, 2);
        for (int i = 0; i < 8; i++) {
            desk.bound(5, 0, i == 7 ? -1 : 1000);
        }
        desk.verify(steps);
        return desk;
    }

    /** A relation of two places with its marks full, and one of one place without marks. */
    static ClauseDesk fourMarks() {
        ClauseDesk desk = relations(2, 1);
        desk.mark(0, 0, 1, 1000);
        desk.mark(0, 1, 0, -1000);
        desk.mark(0, 0, 2, 5);
        desk.mark(0, 2, 1, 5);
        return desk;
    }

    /** Clause 0 has many bounds, clause 1 has some that break, clause 2 some that just hold. */
    static ClauseDesk threeClauses() {
        ClauseDesk desk = relations(1);
        desk.clause(-1, 0, 0);
        desk.bound(0, 1, 1000);
        desk.bound(1, 2, 1000);
        desk.bound(2, 3, 1000);
        desk.bound(0, 3, 900);
        desk.bound(3, 5, -7);
        desk.bound(5, 4, 2);
        desk.clause(-1, 0, 0);
        desk.bound(0, 1, -1);
        desk.bound(1, 0, 0);
        desk.clause(-1, 0, 0);
        desk.bound(0, 1, -1);
        desk.bound(1, 0, 1);
        return desk;
    }

    /** p(x) with x = value, however far (up to 4000), against x <= 0: an alarm with one node below. */
    static ClauseDesk farValue(int value) {
        ClauseDesk desk = relations(1);
        desk.clause(0, 0, 0);
        int part = value / 4;
        equation(desk, 0, 1, part);
        equation(desk, 1, 2, part);
        equation(desk, 2, 3, part);
        equation(desk, 3, 5, value - 3 * part);
        desk.clause(-1, 0, 0);
        desk.atom(0, 0, 0);
        if (value > 0) {
            desk.bound(0, 5, 0);
        } else {
            desk.bound(5, 0, 0);
        }
        desk.verify(2);
        return desk;
    }
}
