/** The boundary cases that promises 1 to 10 name. */
final class EdgesOfRoutines {
    private static final int BAD = -1, STATE = -2, FULL = -3, NONE = -4, ENDLESS = -5;
    private static final Twins.State RICH = Twins::rich, EMPTY = x -> {};

    private EdgesOfRoutines() {}

    static void tell(Edges e) {
        e.edge("Promise 1", "No ROUTINES, CALLS, INTERRUPTS, TASKS", EdgesOfRoutines::newHasNone);
        e.edge("Promise 1", "POINTERS have no GOALS", EdgesOfRoutines::newPointersHaveNoGoals);
        e.edge("Promise 1", "no RUN", EdgesOfRoutines::newHasNoRun);
        e.edge("Promise 1", "SHEETS have nothing", EdgesOfRoutines::newSheetsHaveNothing);
        e.edge("Promise 2", "A ROUTINE: its number", EdgesOfRoutines::routineNumbers);
        e.edge("Promise 2", "BAD", EdgesOfRoutines::routineBad);
        e.edge("Promise 2", "FULL", EdgesOfRoutines::routineFull);
        e.edge("Promise 3", "Its FRAME becomes another one: what it was", EdgesOfRoutines::frameBecomes);
        e.edge("Promise 3", "BAD", EdgesOfRoutines::frameBad);
        e.edge("Promise 4", "(0: not told): what they were", EdgesOfRoutines::turnsBecome);
        e.edge("Promise 4", "BAD", EdgesOfRoutines::turnsBad);
        tellOfCalls(e);
        tellOfPointers(e);
        tellOfAbout(e);
    }

    private static void tellOfCalls(Edges e) {
        e.edge("Promise 5", "to ROUTINE b (pointer false), by POINTER b (true)", EdgesOfRoutines::callByNameOrPointer);
        e.edge("Promise 5", "how many CALLS there are", EdgesOfRoutines::callCounts);
        e.edge("Promise 5", "BAD", EdgesOfRoutines::callBad);
        e.edge("Promise 5", "STATE: it is there", EdgesOfRoutines::callThatIsThere);
        e.edge("Promise 5", "FULL", EdgesOfRoutines::callFull);
        e.edge("Promise 6", "A CALL goes: how many there are", EdgesOfRoutines::cutGoes);
        e.edge("Promise 6", "BAD", EdgesOfRoutines::cutBad);
        e.edge("Promise 6", "STATE: it is not there", EdgesOfRoutines::cutThatIsNotThere);
    }

    private static void tellOfPointers(Edges e) {
        e.edge("Promise 7", "A POINTER TAKES a ROUTINE: 1", EdgesOfRoutines::takes);
        e.edge("Promise 7", "BAD", EdgesOfRoutines::takeBad);
        e.edge("Promise 7", "STATE: it does so already", EdgesOfRoutines::takesAlready);
        e.edge("Promise 8", "All GOALS of POINTER q flow into POINTER p: 1", EdgesOfRoutines::flows);
        e.edge("Promise 8", "BAD", EdgesOfRoutines::flowBad);
        e.edge("Promise 8", "STATE: they do so already", EdgesOfRoutines::flowsAlready);
        e.edge("Promise 8", "(also p and q one)", EdgesOfRoutines::flowIntoItself);
        e.edge("Promise 9", "(the sum of 2 to the number of each)", EdgesOfRoutines::goalsOfNoneAndAll);
        e.edge("Promise 9", "BAD", EdgesOfRoutines::goalsBad);
    }

    private static void tellOfAbout(Edges e) {
        e.edge("Promise 10", "0 its FRAME, 1 TURNS", EdgesOfRoutines::aboutFrameAndTurns);
        e.edge("Promise 10", "2 whether it is of a RING", EdgesOfRoutines::aboutRing);
        e.edge("Promise 10", "3 the least ROUTINE that is TOGETHER with it", EdgesOfRoutines::aboutTogether);
        e.edge("Promise 10", "4 how many it REACHES", EdgesOfRoutines::aboutReaches);
        e.edge("Promise 10", "5 how many REACH it", EdgesOfRoutines::aboutReached);
        e.edge("Promise 10", "BAD", EdgesOfRoutines::aboutBad);
    }

    private static void newHasNone(Edges e) {
        StackDepths x = new StackDepths();
        for (int what = 0; what <= 4; what++) e.is("count " + what, x.count(what), 0);
        e.is("no rooms to share", x.shared(), 0);
        e.refused("no routine 0", EMPTY, y -> y.depth(0), BAD);
        e.refused("no task 0", EMPTY, y -> y.total(0, 0), BAD);
        e.refused("no caller", EMPTY, y -> y.call(0, 0, true, false), BAD);
        StackDepths other = new StackDepths();
        Twins.rich(other);
        e.is("what another object has is not here", x.count(0), 0);
    }

    private static void newPointersHaveNoGoals(Edges e) {
        StackDepths x = new StackDepths();
        for (int p = 0; p < 8; p++) e.is("pointer " + p, x.goals(p), 0);
        x.routine(1);
        for (int p = 0; p < 8; p++) e.is("nothing was taken by " + p, x.take(p, 0), 1);
    }

    private static void newHasNoRun(Edges e) {
        for (int what = 0; what <= 6; what++) {
            int asked = what;
            e.refused("ran " + what, EMPTY, x -> x.ran(asked), STATE);
        }
        e.refused("leave", EMPTY, x -> x.leave(), STATE);
        e.refused("enter", x -> x.routine(1), x -> x.enter(0), STATE);
        e.refused("over", x -> x.routine(1), x -> x.over(0), STATE);
    }

    private static void newSheetsHaveNothing(Edges e) {
        e.refused("count", EMPTY, x -> x.count(5), NONE);
        for (int k = 0; k < 4; k++) {
            int of = k;
            e.refused("lay " + k, EMPTY, x -> x.lay(of, 0, 0), -11);
            for (int l = 0; l < 3; l++) {
                int lane = l;
                e.refused("scan " + k + " as of " + l, EMPTY, x -> x.scan(of, lane, 0, 0), -11);
            }
        }
    }

    private static void routineNumbers(Edges e) {
        StackDepths x = new StackDepths();
        e.is("the first", x.routine(500), 0);
        x.routine(-1);
        e.is("a refused one takes no number", x.routine(0), 1);
        e.is("what was known goes on", x.depth(0), 500);
        e.is("one that comes after a look", x.routine(7), 2);
        e.is("is known", x.depth(2), 7);
        e.is("and is together with itself", x.about(2, 3), 2);
    }

    private static void routineBad(Edges e) {
        e.range("a frame", RICH, v -> x -> x.routine(v), 0, 500);
        e.range("a first frame", EMPTY, v -> x -> x.routine(v), 0, 500);
    }

    private static void routineFull(Edges e) {
        Twins.State nineteen = x -> {
            for (int r = 0; r < 19; r++) x.routine(r);
        };
        e.is("the twentieth", Twins.made(nineteen).routine(500), 19);
        Twins.State twenty = nineteen.and(x -> x.routine(19));
        e.refused("the next", twenty, x -> x.routine(7), FULL);
        e.refused("BAD goes before", twenty, x -> x.routine(501), BAD);
    }

    private static void frameBecomes(Edges e) {
        StackDepths x = Due.with(3, 500, 9);
        e.is("the greatest", x.frame(1, 0), 500);
        e.is("the least", x.frame(1, 500), 0);
        e.is("to what it is", x.frame(1, 500), 500);
        e.is("the one below stays", x.about(0, 0), 3);
        e.is("the one above stays", x.about(2, 0), 9);
    }

    private static void frameBad(Edges e) {
        e.range("a routine", RICH, r -> x -> x.frame(r, 77), 0, 5);
        e.range("a frame", RICH, v -> x -> x.frame(1, v), 0, 500);
    }

    private static void turnsBecome(Edges e) {
        StackDepths x = Due.with(3, 4);
        e.is("not told at first", x.turns(0, 20), 0);
        e.is("the most", x.turns(0, 1), 20);
        e.is("the least", x.turns(0, 0), 1);
        e.is("not told again", x.turns(0, 0), 0);
        e.is("the other was not told", x.about(1, 1), 0);
        x.call(0, 0, false, false);
        x.turns(0, 1);
        x.turns(0, 0);
        e.is("a ring is endless again", x.depth(0), ENDLESS);
    }

    private static void turnsBad(Edges e) {
        e.range("a routine", RICH, r -> x -> x.turns(r, 7), 0, 5);
        e.range("turns", RICH, v -> x -> x.turns(1, v), 0, 20);
    }

    private static void callByNameOrPointer(Edges e) {
        StackDepths x = Due.with(1, 2);
        x.take(1, 0);
        e.is("by pointer 1, which has goal 0", x.call(0, 1, true, false), 1);
        e.is("a ring", x.about(0, 2), 1);
        e.is("1 is not reached", x.about(1, 5), 0);
        e.is("to routine 1", x.call(0, 1, false, false), 2);
        e.is("1 is reached", x.about(1, 5), 1);
        e.is("by pointer 7, of two routines", x.call(1, 7, true, true), 3);
        Twins.State twenty = y -> {
            for (int r = 0; r < 20; r++) y.routine(r);
        };
        e.is("to routine 19", Twins.made(twenty).call(19, 19, false, true), 1);
        e.refused("by pointer 8, of twenty routines", twenty, y -> y.call(0, 8, true, false), BAD);
        e.refused("to routine 20", twenty, y -> y.call(0, 20, false, false), BAD);
    }

    private static void callCounts(Edges e) {
        StackDepths x = Due.with(1, 2);
        e.is("the first", x.call(1, 1, false, false), 1);
        e.is("the second", x.call(1, 1, false, true), 2);
        e.is("as count tells", x.count(1), 2);
        x.cut(1, 1, false, false);
        e.is("after one went", x.call(0, 1, false, true), 2);
    }

    private static void callBad(Edges e) {
        for (int i = 0; i < 2; i++) {
            boolean tail = i == 1;
            e.range("from, tail " + i, RICH, a -> x -> x.call(a, 3, false, tail), 0, 5);
            e.range("to, tail " + i, RICH, b -> x -> x.call(3, b, false, tail), 0, 5);
            e.range("from, by a pointer, tail " + i, RICH, a -> x -> x.call(a, 0, true, tail), 0, 5);
            e.range("by a pointer, tail " + i, RICH, b -> x -> x.call(3, b, true, tail), 0, 7);
        }
    }

    private static void callThatIsThere(Edges e) {
        e.refused("to a routine", RICH, x -> x.call(0, 1, false, false), STATE);
        e.refused("a tail", RICH, x -> x.call(1, 2, false, true), STATE);
        e.refused("by a pointer", RICH, x -> x.call(0, 3, true, false), STATE);
        e.refused("by a pointer, a tail", RICH, x -> x.call(4, 5, true, true), STATE);
        e.refused("of sixty, before FULL", Twins::sixtyCalls, x -> x.call(19, 2, false, true), STATE);
        e.is("a goal of a pointer is no call by name", Twins.made(RICH).call(0, 4, false, false), 6);
    }

    private static void callFull(Edges e) {
        e.refused("to a routine", Twins::sixtyCalls, x -> x.call(0, 0, false, false), FULL);
        e.refused("a tail", Twins::sixtyCalls, x -> x.call(0, 3, false, true), FULL);
        e.refused("by a pointer", Twins::sixtyCalls, x -> x.call(0, 0, true, false), FULL);
        e.refused("by a pointer, a tail", Twins::sixtyCalls, x -> x.call(0, 0, true, true), FULL);
        StackDepths x = Twins.made(Twins::sixtyCalls);
        x.cut(7, 1, false, true);
        e.is("one went, one comes", x.call(7, 7, true, true), 60);
        e.is("and no more", x.call(7, 1, false, true), FULL);
        Twins.State fiftyNine = y -> {
            Twins.sixtyCalls(y);
            y.cut(0, 0, false, true);
        };
        e.is("the sixtieth", Twins.made(fiftyNine).call(0, 0, false, false), 60);
    }

    private static void cutGoes(Edges e) {
        StackDepths x = Due.with(1, 2);
        for (int kind = 0; kind < 4; kind++) x.call(0, 1, kind >= 2, kind % 2 == 1);
        e.is("a tail by a pointer", x.cut(0, 1, true, true), 3);
        e.is("by a pointer", x.cut(0, 1, true, false), 2);
        e.is("a tail", x.cut(0, 1, false, true), 1);
        e.is("the last", x.cut(0, 1, false, false), 0);
        e.is("none is there", x.count(1), 0);
        e.is("nothing is reached", x.about(0, 4), 0);
        StackDepths full = Twins.made(Twins::sixtyCalls);
        e.is("of sixty", full.cut(19, 2, false, true), 59);
    }

    private static void cutBad(Edges e) {
        for (int i = 0; i < 2; i++) {
            boolean tail = i == 1;
            e.range("from, tail " + i, RICH, a -> x -> x.cut(a, 1, false, tail), 0, 5);
            e.range("to, tail " + i, RICH, b -> x -> x.cut(0, b, false, tail), 0, 5);
            e.range("from, by a pointer, tail " + i, RICH, a -> x -> x.cut(a, 3, true, tail), 0, 5);
            e.range("by a pointer, tail " + i, RICH, b -> x -> x.cut(0, b, true, tail), 0, 7);
        }
        e.refused("of none", EMPTY, x -> x.cut(0, 0, false, false), BAD);
    }

    private static void cutThatIsNotThere(Edges e) {
        e.refused("a tail, where a call is", RICH, x -> x.cut(0, 1, false, true), STATE);
        e.refused("a call, where a tail is", RICH, x -> x.cut(1, 2, false, false), STATE);
        e.refused("by name, where a pointer is", RICH, x -> x.cut(0, 3, false, false), STATE);
        e.refused("by a pointer, where a name is", RICH, x -> x.cut(0, 1, true, false), STATE);
        e.refused("the other way", RICH, x -> x.cut(1, 0, false, false), STATE);
        e.refused("a goal of a pointer", RICH, x -> x.cut(0, 4, false, false), STATE);
        e.refused("of no calls", x -> x.routine(1), x -> x.cut(0, 0, false, false), STATE);
        e.refused("one that went", RICH.and(x -> x.cut(0, 1, false, false)), x -> x.cut(0, 1, false, false), STATE);
    }

    private static void takes(Edges e) {
        StackDepths x = new StackDepths();
        for (int r = 0; r < 20; r++) x.routine(0);
        e.is("the first, the first", x.take(0, 0), 1);
        e.is("the last, the last", x.take(7, 19), 1);
        e.is("of the first", x.goals(0), 1);
        e.is("of the last", x.goals(7), 1 << 19);
        e.is("a goal that flowed in can be taken", Twins.made(RICH).take(3, 5), 1);
    }

    private static void takeBad(Edges e) {
        e.range("a pointer", RICH, p -> x -> x.take(p, 1), 0, 7);
        e.range("a routine", RICH, r -> x -> x.take(1, r), 0, 5);
        e.refused("of none", EMPTY, x -> x.take(0, 0), BAD);
    }

    private static void takesAlready(Edges e) {
        e.refused("again", RICH, x -> x.take(3, 4), STATE);
        e.refused("again, behind others", RICH.and(x -> x.take(3, 0)), x -> x.take(3, 4), STATE);
        Twins.State all = x -> {
            for (int r = 0; r < 20; r++) {
                x.routine(r);
                x.take(7, r);
            }
        };
        e.refused("the first of twenty", all, x -> x.take(7, 0), STATE);
        e.refused("the last of twenty", all, x -> x.take(7, 19), STATE);
        e.is("another pointer does not", Twins.made(all).take(6, 19), 1);
    }

    private static void flows(Edges e) {
        StackDepths x = Due.with(1);
        e.is("the last into the first", x.flow(0, 7), 1);
        e.is("the first into the last", x.flow(7, 0), 1);
        e.is("of no goals", x.goals(0), 0);
        x.take(0, 0);
        e.is("goals that come later", x.goals(7), 1);
        StackDepths known = Due.with(1, 5, 7);
        known.call(0, 0, true, false);
        known.take(1, 1);
        known.take(2, 2);
        e.is("before a flow", known.depth(0), 1);
        known.flow(0, 1);
        e.is("after a flow", known.depth(0), 6);
        known.flow(0, 2);
        e.is("after another one", known.depth(0), 8);
        e.is("the goals of both", known.goals(0), 6);
        StackDepths all = new StackDepths();
        for (int p = 0; p < 8; p++) {
            for (int q = 0; q < 8; q++) {
                if (p != q) e.is(q + " into " + p, all.flow(p, q), 1);
            }
        }
    }

    private static void flowBad(Edges e) {
        e.range("into", RICH, p -> x -> x.flow(p, 4), 0, 7);
        e.range("of", RICH, q -> x -> x.flow(4, q), 0, 7);
        e.refused("one and the same that is none", RICH, x -> x.flow(8, 8), BAD);
        e.refused("one and the same below", RICH, x -> x.flow(-1, -1), BAD);
    }

    private static void flowsAlready(Edges e) {
        e.refused("again", RICH, x -> x.flow(3, 2), STATE);
        e.refused("again, behind others", RICH.and(x -> x.flow(3, 7)), x -> x.flow(3, 2), STATE);
        e.is("the other way it does not", Twins.made(RICH).flow(2, 3), 1);
        StackDepths x = Due.with(1);
        x.take(0, 0);
        x.flow(1, 0);
        x.flow(2, 1);
        e.is("through another one is not told yet", x.flow(2, 0), 1);
        e.is("then it is", x.flow(2, 0), STATE);
    }

    private static void flowIntoItself(Edges e) {
        for (int p = 0; p < 8; p++) {
            int one = p;
            e.refused("pointer " + p, RICH, x -> x.flow(one, one), STATE);
        }
    }

    private static void goalsOfNoneAndAll(Edges e) {
        StackDepths x = new StackDepths();
        e.is("of none", x.goals(7), 0);
        for (int r = 0; r < 20; r++) {
            x.routine(0);
            x.take(7, r);
            e.is("up to " + r, x.goals(7), (2 << r) - 1);
        }
        x.flow(6, 7);
        e.is("all flow on", x.goals(6), 1048575);
        x.take(6, 3);
        e.is("one that flowed in and is taken counts once", x.goals(6), 1048575);
    }

    private static void goalsBad(Edges e) {
        e.range("a pointer", RICH, p -> x -> x.goals(p), 0, 7);
    }

    private static void aboutFrameAndTurns(Edges e) {
        StackDepths x = Due.with(0, 500);
        e.is("the least frame", x.about(0, 0), 0);
        e.is("the greatest frame", x.about(1, 0), 500);
        e.is("turns that are not told", x.about(0, 1), 0);
        x.turns(0, 1);
        x.turns(1, 20);
        e.is("the least turns", x.about(0, 1), 1);
        e.is("the most turns", x.about(1, 1), 20);
    }

    private static void aboutRing(Edges e) {
        StackDepths x = Due.with(1, 1, 1);
        x.call(1, 1, false, false);
        x.call(0, 1, false, false);
        x.call(1, 2, false, false);
        e.is("itself", x.about(1, 2), 1);
        e.is("who calls it is not", x.about(0, 2), 0);
        e.is("whom it calls is not", x.about(2, 2), 0);
        x.turns(1, 3);
        e.is("turns do not end it", x.about(1, 2), 1);
        x.cut(1, 1, false, false);
        e.is("cut, it is none", x.about(1, 2), 0);
    }

    private static void aboutTogether(Edges e) {
        StackDepths x = new StackDepths();
        for (int r = 0; r < 20; r++) x.routine(1);
        for (int r = 0; r < 20; r++) e.is("alone " + r, x.about(r, 3), r);
        for (int r = 0; r < 20; r++) x.call(r, (r + 7) % 20, false, true);
        for (int r = 0; r < 20; r++) e.is("all twenty " + r, x.about(r, 3), 0);
    }

    private static void aboutReaches(Edges e) {
        StackDepths x = Due.with(1, 1, 1);
        e.is("none", x.about(0, 4), 0);
        x.call(0, 1, false, false);
        x.call(0, 1, false, true);
        e.is("two calls to one are one", x.about(0, 4), 1);
        x.call(0, 0, false, true);
        e.is("itself by a tail", x.about(0, 4), 2);
        x.call(1, 2, false, true);
        e.is("all", x.about(0, 4), 3);
    }

    private static void aboutReached(Edges e) {
        StackDepths x = Due.with(1, 1, 1);
        e.is("by none", x.about(2, 5), 0);
        x.call(1, 2, false, false);
        x.call(1, 2, false, true);
        e.is("two calls of one are one", x.about(2, 5), 1);
        x.call(2, 2, false, true);
        e.is("by itself", x.about(2, 5), 2);
        x.call(0, 1, false, true);
        e.is("by all", x.about(2, 5), 3);
    }

    private static void aboutBad(Edges e) {
        for (int what = 0; what <= 5; what++) {
            int asked = what;
            e.range("a routine, " + what, RICH, r -> x -> x.about(r, asked), 0, 5);
        }
        e.range("what", RICH, what -> x -> x.about(0, what), 0, 5);
    }
}
