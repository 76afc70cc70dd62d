/** The sentences of promises 7 to 11, and the test that holds to each. */
final class SearchSentences {
    private static final String ROUND = "Promise 7: round";
    private static final String REFINE = "Promise 8: refine";
    private static final String VERIFY = "Promise 9: verify";
    private static final String START = "Promise 10: start";
    private static final String CHECK = "Promise 11: check";
    private static final int SAFE = 1;
    private static final int UNSAFE = 2;
    private static final int UNKNOWN = 3;

    private SearchSentences() {
    }

    static void all() {
        Bench.holds(ROUND, "A round: how many states it reached.", SearchSentences::statesReached);
        Bench.holds(ROUND, "IllegalStateException when there is a verdict", SearchSentences::roundWithVerdict);
        Bench.holds(ROUND, "or an alarm.", SearchSentences::roundWithAlarm);
        Bench.holds(REFINE, "Refining: how many marks came.", SearchSentences::marksThatCame);
        Bench.holds(REFINE, "IllegalStateException when there is no alarm,", SearchSentences::refineWithoutAlarm);
        Bench.holds(REFINE, "or a verdict.", SearchSentences::refineWithVerdict);
        Bench.holds(VERIFY, "Rounds, and refining whenever there is an alarm,", SearchSentences::stepsOfBothKinds);
        Bench.holds(VERIFY, "until there is a verdict,", SearchSentences::untilThereIsAVerdict);
        Bench.holds(VERIFY, "but at most fuel steps of the two kinds:", SearchSentences::atMostFuelSteps);
        Bench.holds(VERIFY, "the verdict.", SearchSentences::answersTheVerdict);
        Bench.holds(VERIFY, "IllegalArgumentException when fuel is not 0 .. 100.", SearchSentences::wrongFuel);
        Bench.holds(START, "A fresh start (marks stay);", SearchSentences::startKeepsMarks);
        Bench.holds(START, "the verdict is none.", SearchSentences::startForgetsTheVerdict);
        Bench.holds(CHECK, "The first clause, by its number, that does not hold for the relations as the states tell "
                + "them:", SearchSentences::firstThatDoesNotHold);
        Bench.holds(CHECK, "for some states of its atoms its bounds and what these allow hold together, with the "
                + "head FALSE", SearchSentences::falseThatDoesNotHold);
        Bench.holds(CHECK, "or with what some cube of the head's relation, not reached, allows for the head.",
                SearchSentences::headNotReached);
        Bench.holds(CHECK, "NONE when there is none.", SearchSentences::allHold);
    }

    private static void statesReached() {
        ClauseDesk ladder = Desks.ladder();
        int[] reached = {1, 1, 1, 2, 2, 0};
        for (int n = 0; n < reached.length; n++) {
            Bench.due("round " + (n + 1) + " of a ladder", ladder.round(), reached[n]);
        }
        ClauseDesk many = Desks.relations(2, 2, 2, 2);
        for (int r = 0; r < 4; r++) {
            for (int k = 0; k < 4; k++) {
                many.mark(r, k / 2, 2, 5 * (k % 2));
            }
            many.clause(r, 0, 1);
        }
        Bench.due("nine cubes of each of four relations", many.round(), 36);
        Bench.due("nothing more", many.round(), 0);
        Bench.due("nothing on a new desk", new ClauseDesk().round(), 0);
        ClauseDesk alarm = Desks.counterUnderWay();
        Bench.due("nothing with an alarm", alarm.round(), 0);
    }

    private static void roundWithVerdict() {
        Bench.refused("SAFE", Desks::safeCounter, ClauseDesk::round, Bench.STATE);
        Bench.refused("UNSAFE", Desks::unsafeCounter, ClauseDesk::round, Bench.STATE);
        Bench.refused("UNKNOWN", Desks::unknownCounter, ClauseDesk::round, Bench.STATE);
        Bench.refused("UNKNOWN by too many nodes", SearchSentences::tooManyNodes, ClauseDesk::round, Bench.STATE);
        ClauseDesk desk = Desks.safeCounter();
        desk.start();
        Bench.due("without the verdict", desk.round(), 1);
    }

    private static ClauseDesk tooManyNodes() {
        ClauseDesk desk = Desks.ladderWithAlarm(2, 2);
        desk.refine();
        return desk;
    }

    private static void roundWithAlarm() {
        Bench.refused("an alarm", Desks::counterWithAlarm, ClauseDesk::round, Bench.STATE);
        Bench.refused("an alarm of clause 0", SearchSentences::bareAlarm, ClauseDesk::round, Bench.STATE);
        Bench.refused("an alarm of many nodes", () -> Desks.ladderWithAlarm(2, 2), ClauseDesk::round, Bench.STATE);
        ClauseDesk desk = Desks.counterWithAlarm();
        desk.refine();
        Bench.due("after refining", desk.round(), 1);
    }

    private static ClauseDesk bareAlarm() {
        ClauseDesk desk = new ClauseDesk();
        desk.clause(-1, 0, 0);
        desk.round();
        return desk;
    }

    private static void marksThatCame() {
        Bench.due("two of one node", Desks.counterWithAlarm().refine(), 2);
        Bench.due("none that are too far", Desks.farValue(1001).refine(), 0);
        Bench.due("none of the root", bareAlarm().refine(), 0);
        Bench.due("none of too many nodes", Desks.ladderWithAlarm(2, 1).refine(), 0);
        Bench.due("two of forty nodes", Desks.ladderWithAlarm(1, 1).refine(), 2);
        ClauseDesk all = Desks.relations(2, 2, 2, 2);
        for (int r = 0; r < 4; r++) {
            all.clause(r, 0, 1);
            Desks.equation(all, 0, 5, r);
            Desks.equation(all, 1, 5, -r);
            if (r > 0) {
                all.atom(r - 1, 2, 3);
            }
        }
        all.clause(-1, 0, 0);
        all.atom(3, 0, 1);
        all.bound(0, 1, 0);
        all.verify(5);
        Bench.due("four of each of four relations", all.refine(), 16);
        Bench.due("of relation 3", Sight.marks(all, 3), "0-1<=6 0-2<=3 1-0<=-6 1-2<=-3");
        Bench.due("of relation 0", Sight.marks(all, 0), "0-1<=0 0-2<=0 1-0<=0 1-2<=0");
    }

    private static void refineWithoutAlarm() {
        Bench.refused("a new desk", ClauseDesk::new, ClauseDesk::refine, Bench.STATE);
        Bench.refused("under way", Desks::counterUnderWay, ClauseDesk::refine, Bench.STATE);
        Bench.refused("SAFE", Desks::safeCounter, ClauseDesk::refine, Bench.STATE);
        Bench.refused("refined already", SearchSentences::refined, ClauseDesk::refine, Bench.STATE);
    }

    private static ClauseDesk refined() {
        ClauseDesk desk = Desks.counterWithAlarm();
        desk.refine();
        return desk;
    }

    private static void refineWithVerdict() {
        Bench.refused("UNSAFE", Desks::unsafeCounter, ClauseDesk::refine, Bench.STATE);
        Bench.refused("UNKNOWN", Desks::unknownCounter, ClauseDesk::refine, Bench.STATE);
        Bench.refused("UNKNOWN by too many nodes", SearchSentences::tooManyNodes, ClauseDesk::refine, Bench.STATE);
        Bench.due("though there is an alarm", Desks.unsafeCounter().state(4), 2);
    }

    /** After n steps of verify all is as after n calls of round and refine. */
    private static void stepsOfBothKinds() {
        for (int n = 0; n <= 9; n++) {
            ClauseDesk verified = Desks.counter(9, 11);
            verified.verify(n);
            ClauseDesk stepped = Desks.counter(9, 11);
            for (int i = 0; i < n; i++) {
                step(stepped);
            }
            Bench.due("counts after " + n, Sight.counts(verified), Sight.counts(stepped));
            Bench.due("marks after " + n, Sight.marks(verified, 0), Sight.marks(stepped, 0));
            Bench.due("states after " + n, Sight.states(verified, 0), Sight.states(stepped, 0));
        }
        ClauseDesk alarm = Desks.counterWithAlarm();
        alarm.verify(1);
        Bench.due("an alarm is refined first", Sight.counts(alarm), "1 3 0 0 -1 0 1");
    }

    private static void step(ClauseDesk desk) {
        if (desk.state(4) != ClauseDesk.NONE) {
            desk.refine();
        } else {
            desk.round();
        }
    }

    private static void untilThereIsAVerdict() {
        Bench.due("SAFE in two steps", Sight.counts(Desks.safeCounter()), "1 3 1 2 -1 0 0");
        Bench.due("UNSAFE in seven", Sight.counts(Desks.unsafeCounter()), "1 3 2 3 2 3 1");
        Bench.due("UNKNOWN in twelve", Sight.counts(Desks.unknownCounter()), "1 3 3 4 2 4 2");
        for (int number = 3; number <= 5; number++) {
            ClauseDesk desk = Desks.inSituation(number);
            String before = Sight.counts(desk);
            desk.verify(100);
            Bench.due("no step after a verdict", Sight.counts(desk), before);
            int n = number;
            desk = Desks.inSituation(number);
            desk.start();
            Bench.due("again", desk.verify(100), Desks.inSituation(n).state(2));
        }
    }

    private static void atMostFuelSteps() {
        String[] after = {"1 3 0 0 -1 0 0", "1 3 0 1 -1 0 0", "1 3 0 2 2 2 0", "1 3 0 0 -1 0 1", "1 3 0 1 -1 0 1"};
        for (int fuel = 0; fuel < after.length; fuel++) {
            ClauseDesk desk = Desks.counter(9, 11);
            desk.verify(fuel);
            Bench.due("fuel " + fuel, Sight.counts(desk), after[fuel]);
        }
        ClauseDesk ever = Desks.longSearch();
        Bench.due("a hundred steps of 145", ever.verify(100), 0);
        Bench.due("three alarms of 29 steps each, then 13 rounds", Sight.counts(ever), "4 12 0 13 -1 0 3");
        Bench.due("forty-four more", ever.verify(44), 0);
        Bench.due("and four alarms, and a fifth", Sight.counts(ever), "4 12 0 28 11 33 4");
        Bench.due("the last one", ever.verify(1), UNKNOWN);
        Bench.due("one mark at a time", Sight.marks(ever, 3), "0-2<=0 0-2<=1 0-2<=2 0-2<=3");
    }

    private static void answersTheVerdict() {
        Bench.due("none", Desks.counter(9, 11).verify(3), 0);
        Bench.due("none on a new desk without fuel", new ClauseDesk().verify(0), 0);
        Bench.due("SAFE on a new desk", new ClauseDesk().verify(1), SAFE);
        Bench.due("UNSAFE", Desks.counter(9, 1).verify(100), UNSAFE);
        Bench.due("UNKNOWN", Desks.counter(9, 11).verify(100), UNKNOWN);
        for (int fuel = 0; fuel <= 100; fuel += 50) {
            Bench.due("SAFE that was there, fuel " + fuel, Desks.safeCounter().verify(fuel), SAFE);
            Bench.due("UNSAFE that was there, fuel " + fuel, Desks.unsafeCounter().verify(fuel), UNSAFE);
            Bench.due("UNKNOWN that was there, fuel " + fuel, Desks.unknownCounter().verify(fuel), UNKNOWN);
        }
    }

    private static void wrongFuel() {
        for (int fuel : new int[] {Integer.MIN_VALUE, -1, 101, Integer.MAX_VALUE}) {
            for (int i = 0; i < 6; i++) {
                int number = i;
                Bench.refused("verify(" + fuel + ") in situation " + i, () -> Desks.inSituation(number),
                        d -> d.verify(fuel), Bench.ARGUMENT);
            }
        }
        Bench.due("verify(0)", Desks.counterWithAlarm().verify(0), 0);
        Bench.due("verify(100)", Desks.counterWithAlarm().verify(100), UNKNOWN);
    }

    private static void startKeepsMarks() {
        ClauseDesk desk = Desks.unknownCounter();
        String marks = Sight.marks(desk, 0);
        desk.start();
        Bench.due("marks", Sight.marks(desk, 0), marks);
        Bench.due("which are these", marks, "0-2<=0 2-0<=0 0-2<=1 2-0<=-1");
        Bench.due("no states, rounds or alarm", Sight.counts(desk), "1 3 0 0 -1 0 2");
        Bench.due("no states", Sight.states(desk, 0), "");
        Bench.due("clauses stay", desk.follows(2, 5, 0), -11);
        ClauseDesk again = Desks.counterUnderWay();
        again.start();
        again.start();
        Bench.due("a start after a start", Sight.counts(again), "1 3 0 0 -1 0 0");
        ClauseDesk fresh = new ClauseDesk();
        fresh.start();
        Bench.due("a start of a new desk", Sight.counts(fresh), "0 0 0 0 -1 0 0");
    }

    private static void startForgetsTheVerdict() {
        for (int number = 0; number < 6; number++) {
            ClauseDesk desk = Desks.inSituation(number);
            desk.start();
            Bench.due("situation " + number, desk.state(2), 0);
            Bench.due("verify(0) tells the same", desk.verify(0), 0);
        }
    }

    private static void firstThatDoesNotHold() {
        ClauseDesk desk = Desks.counter(9, 11);
        desk.mark(0, 0, 2, 0);
        desk.mark(0, 0, 2, 10);
        Bench.due("p(0) is missing", desk.check(), 0);
        desk.round();
        Bench.due("p(1) is missing", desk.check(), 1);
        desk.round();
        Bench.due("none is", desk.check(), -1);
        Bench.due("the alarm's clause is", Desks.counterWithAlarm().check(), 2);
        ClauseDesk last = Desks.relations(1);
        for (int k = 0; k < 12; k++) {
            last.clause(k == 11 ? -1 : 0, 0, 0);
            if (k < 11) {
                last.atom(0, 0, 0);
            }
        }
        Bench.due("clause 11 can be it", last.check(), 11);
        Bench.due("nothing is changed by it", Sight.counts(last), "1 12 0 0 -1 0 0");
    }

    private static void falseThatDoesNotHold() {
        ClauseDesk bare = new ClauseDesk();
        bare.clause(-1, 0, 0);
        Bench.due("without atoms", bare.check(), 0);
        bare.bound(0, 5, -1);
        bare.bound(5, 0, 1);
        Bench.due("with bounds that hold", bare.check(), 0);
        bare.bound(5, 0, 0);
        Bench.due("with bounds that break", bare.check(), -1);
        for (int bad = 10; bad <= 11; bad++) {
            ClauseDesk desk = Desks.counter(9, bad);
            desk.mark(0, 0, 2, 10);
            desk.round();
            Bench.due("x <= 10 and x >= " + bad, desk.check(), bad == 10 ? 2 : -1);
        }
        ClauseDesk second = Desks.relations(1, 1);
        second.clause(-1, 0, 0);
        second.atom(0, 0, 0);
        second.atom(1, 0, 0);
        second.clause(0, 0, 0);
        second.round();
        Bench.due("the second atom has no state", second.check(), -1);
    }

    /** The premises of a state that is missing may be any two, and the cube that is missing any one. */
    private static void headNotReached() {
        ClauseDesk ladder = Desks.ladder();
        for (int n = 0; n < 5; n++) {
            Bench.due("after " + n + " rounds", ladder.check(), n == 0 ? 0 : 1);
            ladder.round();
        }
        Bench.due("after 5 rounds", ladder.check(), -1);
        Bench.due("only with the second of two premises", missingBeyond(1), 2);
        Bench.due("only with the first of two premises", missingBeyond(0), 2);
        ClauseDesk empty = Desks.relations(1);
        empty.mark(0, 0, 2, 0);
        empty.mark(0, 0, 2, 5);
        empty.clause(0, 0, 0);
        Bench.due("nothing reached", empty.check(), 0);
        empty.round();
        Bench.due("a cube that allows nothing is not missed", empty.check(), -1);
        ClauseDesk bounds = Desks.relations(1);
        bounds.mark(0, 0, 2, 0);
        bounds.clause(0, 0, 0);
        bounds.bound(0, 5, 0);
        bounds.round();
        Bench.due("a cube that the bounds forbid is not missed", bounds.check(), -1);
        ClauseDesk alarm = Desks.relations(1);
        alarm.clause(0, 0, 0);
        alarm.clause(-1, 0, 0);
        alarm.round();
        Bench.due("an alarm that kept a state from being reached", alarm.check(), 0);
    }

    /** p has both cubes of x <= 0, q that of x >= 1; clause 2: q(z) if p(v0), p(v1) and z is one of these. */
    private static int missingBeyond(int variable) {
        ClauseDesk desk = Desks.relations(1, 1);
        desk.mark(0, 0, 2, 0);
        desk.mark(1, 0, 2, 0);
        desk.clause(0, 0, 0);
        desk.clause(1, 0, 0);
        desk.bound(5, 0, -1);
        desk.clause(1, variable, 0);
        desk.atom(0, 0, 0);
        desk.atom(0, 1, 0);
        desk.round();
        return desk.check();
    }

    private static void allHold() {
        Bench.due("no clauses", new ClauseDesk().check(), -1);
        Bench.due("SAFE", Desks.safeCounter().check(), -1);
        ClauseDesk own = Desks.relations(1);
        own.clause(0, 0, 0);
        own.atom(0, 0, 0);
        Bench.due("p(x) if p(x), before any round", own.check(), -1);
        ClauseDesk started = Desks.safeCounter();
        started.start();
        Bench.due("after a fresh start", started.check(), 0);
    }
}
