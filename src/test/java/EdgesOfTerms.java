import java.util.function.IntFunction;

/** The boundary cases that "What it is", "The public face" and "Terms" name. */
final class EdgesOfTerms {
    private static final int BAD = -1, STATE = -2, FULL = -3, NONE = -4, ENDLESS = -5;
    private static final int MIN = Integer.MIN_VALUE, MAX = Integer.MAX_VALUE;
    private static final String TERMS = "Terms";
    private static final Twins.State RICH = Twins::rich, EMPTY = x -> {};

    private EdgesOfTerms() {}

    static void tell(Edges e) {
        e.edge("What it is", "at most 512 calls", EdgesOfTerms::the512thCallStillAnswers);
        e.edge("The public face", "BAD = -1, STATE = -2, FULL = -3, NONE = -4, ENDLESS = -5", EdgesOfTerms::constants);
        e.edge(TERMS, "BAD -1 (a number is not as told, there is no such", EdgesOfTerms::badNumbers);
        e.edge(TERMS, "there is no such ROUTINE", EdgesOfTerms::noSuchRoutine);
        e.edge(TERMS, "POINTER, INTERRUPT, TASK, SHEET)", EdgesOfTerms::noSuchPointerTaskOrSheet);
        e.edge(TERMS, "STATE -2 (as told), FULL -3, NONE -4 (there is none), ENDLESS -5", EdgesOfTerms::otherRefusals);
        e.edge(TERMS, "the first that fits", EdgesOfTerms::firstThatFits);
        e.edge(TERMS, "what is refused changes nothing", EdgesOfTerms::refusedInARow);
        tellOfRoutines(e);
        tellOfDepths(e);
        tellOfTasks(e);
        tellOfRunsAndSheets(e);
    }

    private static void tellOfRoutines(Edges e) {
        e.edge(TERMS, "ROUTINES (20) are numbered as they come", EdgesOfTerms::twentyRoutines);
        e.edge(TERMS, "a FRAME (0 to 500)", EdgesOfTerms::frames);
        e.edge(TERMS, "TURNS (0: not told, at first; 1 to 20)", EdgesOfTerms::turnsTold);
        e.edge(TERMS, "CALLS (60)", EdgesOfTerms::sixtyCalls);
        e.edge(TERMS, "each of these is there once", EdgesOfTerms::eachCallOnce);
        e.edge(TERMS, "POINTERS 0 to 7", EdgesOfTerms::eightPointers);
        e.edge(TERMS, "all GOALS of POINTERS that flow into them, again and again", EdgesOfTerms::goalsFlowOn);
        e.edge(TERMS, "A CALL by a POINTER is one to each of its GOALS", EdgesOfTerms::noGoalsAndAllGoals);
    }

    private static void tellOfDepths(Edges e) {
        e.edge(TERMS, "a REACHES b, if there is a CALL from a to b, or to one that REACHES b", EdgesOfTerms::reaches);
        e.edge(TERMS, "if each REACHES the other one, or they are one", EdgesOfTerms::togetherAlone);
        e.edge(TERMS, "are a RING, if a CALL from one of them to one of them is no TAIL", EdgesOfTerms::ringOfOneCall);
        e.edge(TERMS, "what they CALL that is not in it (0: nothing)", EdgesOfTerms::ringWithNothingBeyond);
        e.edge(TERMS, "ENDLESS, if one in it has no TURNS told", EdgesOfTerms::oneWithoutTurns);
        e.edge(TERMS, "Else (one of them, or TAILS alone among them)", EdgesOfTerms::tailsAlone);
        e.edge(TERMS, "what it CALLS by no TAIL (0: nothing)", EdgesOfTerms::callsNothing);
        e.edge(TERMS, "by a TAIL that is not TOGETHER with it", EdgesOfTerms::tailsWithin);
        e.edge(TERMS, "ENDLESS, if any of these DEPTHS is", EdgesOfTerms::endlessBelow);
    }

    private static void tellOfTasks(Edges e) {
        e.edge(TERMS, "INTERRUPTS (8) are numbered as they come", EdgesOfTerms::eightInterrupts);
        e.edge(TERMS, "a RANK (1 to 7), a ROUTINE, SAVED bytes (0 to 100)", EdgesOfTerms::ranksAndSaved);
        e.edge(TERMS, "TASKS (6) are numbered as they come", EdgesOfTerms::sixTasks);
        e.edge(TERMS, "a RANK (0 to 7), a GUARD (0 to 100)", EdgesOfTerms::ranksAndGuards);
        e.edge(TERMS, "for each RANK above its own", EdgesOfTerms::ranksAbove);
        e.edge(TERMS, "an INTERRUPT of that RANK (0: none), summed", EdgesOfTerms::ranksWithoutInterrupts);
        e.edge(TERMS, "(ENDLESS, if one of these is.)", EdgesOfTerms::endlessTotals);
        e.edge(TERMS, "all of a group APART from one another", EdgesOfTerms::groupsAreApart);
        e.edge(TERMS, "of ways that have it that in which TASK 0's group, then TASK 1's, and so on, is the least",
                EdgesOfTerms::leastGroups);
        e.edge(TERMS, "(groups are numbered by their first TASKS)", EdgesOfTerms::groupNumbers);
    }

    private static void tellOfRunsAndSheets(Edges e) {
        e.edge(TERMS, "in its place (its FRAME goes first)", EdgesOfTerms::frameGoesFirst);
        e.edge(TERMS, "if there is no such CALL (no TAIL for ENTER, a TAIL for GO OVER)", EdgesOfTerms::strange);
        e.edge(TERMS, "if the ROUTINE would be there more often than its TURNS (told ones)", EdgesOfTerms::over);
        e.edge(TERMS, "SHEETS 0 to 3", EdgesOfTerms::fourSheets);
        e.edge(TERMS, "rows of BYTES (lane 0), SHORTS (1), INTS (2)", EdgesOfTerms::lanes);
        e.edge(TERMS, "with 0 to 60 CELLS, or nothing (at first)", EdgesOfTerms::cells);
        e.edge(TERMS, "1 NULL (nothing), 2 INDEX, 3 CAST (another lane), 4 SIZE (below 0)", EdgesOfTerms::faults);
    }

    private static void the512thCallStillAnswers(Edges e) {
        StackDepths x = Due.with(7, 9);
        x.run(0);
        for (int call = 4; call <= 511; call++) {
            if (call % 2 == 0) x.enter(1);
            else x.leave();
        }
        e.is("the 512th call, ran(3)", x.ran(3), 254);
        StackDepths y = Due.with(7, 9);
        for (int call = 3; call <= 511; call++) y.frame(0, call - 11);
        e.is("the 512th call, depth", y.depth(0), 500);
    }

    private static void constants(Edges e) {
        e.is("BAD", StackDepths.BAD, -1);
        e.is("STATE", StackDepths.STATE, -2);
        e.is("FULL", StackDepths.FULL, -3);
        e.is("NONE", StackDepths.NONE, -4);
        e.is("ENDLESS", StackDepths.ENDLESS, -5);
    }

    private static void badNumbers(Edges e) {
        e.refused("routine", RICH, x -> x.routine(501), BAD);
        e.refused("frame", RICH, x -> x.frame(0, 501), BAD);
        e.refused("turns", RICH, x -> x.turns(0, 21), BAD);
        e.refused("about", RICH, x -> x.about(0, 6), BAD);
        e.refused("way", RICH, x -> x.way(0, -1), BAD);
        e.refused("interrupt, rank", RICH, x -> x.interrupt(0, 0, 0), BAD);
        e.refused("interrupt, saved", RICH, x -> x.interrupt(1, 0, 101), BAD);
        e.refused("task, rank", RICH, x -> x.task(0, 8, 0), BAD);
        e.refused("task, guard", RICH, x -> x.task(0, 0, 101), BAD);
        e.refused("total", RICH, x -> x.total(0, 4), BAD);
        e.refused("ran", RICH, x -> x.ran(7), BAD);
        e.refused("sheet, lane", RICH, x -> x.sheet(0, 3, 1), BAD);
        e.refused("sheet, n", RICH, x -> x.sheet(0, 0, 61), BAD);
        e.refused("scan, lane", RICH, x -> x.scan(0, 3, 0, 1), BAD);
        e.refused("scan, n", RICH, x -> x.scan(0, 0, 0, 21), BAD);
        e.refused("count", RICH, x -> x.count(6), BAD);
    }

    private static void noSuchRoutine(Edges e) {
        noRoutine(e, "frame", r -> x -> x.frame(r, 1));
        noRoutine(e, "turns", r -> x -> x.turns(r, 1));
        noRoutine(e, "call from", r -> x -> x.call(r, 1, false, true));
        noRoutine(e, "call to", r -> x -> x.call(0, r, false, true));
        noRoutine(e, "call from, by a pointer", r -> x -> x.call(r, 0, true, true));
        noRoutine(e, "cut from", r -> x -> x.cut(r, 1, false, false));
        noRoutine(e, "cut to", r -> x -> x.cut(0, r, false, false));
        noRoutine(e, "cut from, by a pointer", r -> x -> x.cut(r, 3, true, false));
        noRoutine(e, "take", r -> x -> x.take(3, r));
        noRoutine(e, "about", r -> x -> x.about(r, 0));
        noRoutine(e, "depth", r -> x -> x.depth(r));
        noRoutine(e, "way", r -> x -> x.way(r, 0));
        noRoutine(e, "endless", r -> x -> x.endless(r));
        noRoutine(e, "interrupt", r -> x -> x.interrupt(1, r, 0));
        noRoutine(e, "task", r -> x -> x.task(r, 0, 0));
        noRoutine(e, "saves", r -> x -> x.saves(0, r));
        noRoutine(e, "run", r -> x -> x.run(r));
        noRoutine(e, "enter", r -> x -> x.enter(r));
        noRoutine(e, "over", r -> x -> x.over(r));
    }

    /** The rich state has six routines, a new object none, one that is full twenty. */
    private static void noRoutine(Edges e, String what, IntFunction<Twins.Call> call) {
        for (int r : new int[] {-1, 6, MAX}) e.refused(what + " " + r, RICH, call.apply(r), BAD);
        e.refused(what + " 0 of none", EMPTY, call.apply(0), BAD);
        e.refused(what + " 20 of twenty", EdgesOfTerms::twentyAndATask, call.apply(20), BAD);
    }

    private static void twentyAndATask(StackDepths x) {
        for (int r = 0; r < 20; r++) x.routine(r);
        x.task(19, 0, 0);
        x.run(19);
    }

    private static void noSuchPointerTaskOrSheet(Edges e) {
        for (int p : new int[] {-1, 8, MIN, MAX}) {
            e.refused("call by pointer " + p, RICH, x -> x.call(0, p, true, true), BAD);
            e.refused("cut of pointer " + p, RICH, x -> x.cut(0, p, true, true), BAD);
            e.refused("take by " + p, RICH, x -> x.take(p, 0), BAD);
            e.refused("flow into " + p, RICH, x -> x.flow(p, 0), BAD);
            e.refused("flow of " + p, RICH, x -> x.flow(0, p), BAD);
            e.refused("goals of " + p, RICH, x -> x.goals(p), BAD);
        }
        for (int t : new int[] {-1, 3, MIN, MAX}) {
            e.refused("total of task " + t, RICH, x -> x.total(t, 0), BAD);
            e.refused("apart of task " + t, RICH, x -> x.apart(t, 0, true), BAD);
            e.refused("apart from task " + t, RICH, x -> x.apart(0, t, true), BAD);
            e.refused("group of task " + t, RICH, x -> x.group(t), BAD);
            e.refused("saves of task " + t, RICH, x -> x.saves(t, 0), BAD);
            e.refused("best of task " + t, RICH, x -> x.best(t), BAD);
        }
        for (int k : new int[] {-1, 4, MIN, MAX}) {
            e.refused("sheet " + k, RICH, x -> x.sheet(k, 0, 1), BAD);
            e.refused("lay on sheet " + k, RICH, x -> x.lay(k, 0, 1), BAD);
            e.refused("scan of sheet " + k, RICH, x -> x.scan(k, 0, 0, 0), BAD);
        }
    }

    private static void otherRefusals(Edges e) {
        e.refused("STATE", RICH, x -> x.call(0, 1, false, false), -2);
        e.refused("FULL", Twins::sixtyCalls, x -> x.call(0, 0, false, false), -3);
        e.refused("NONE", RICH, x -> x.endless(0), -4);
        e.refused("ENDLESS", Twins::richAndEndless, x -> x.depth(5), -5);
    }

    private static void firstThatFits(Edges e) {
        Twins.State full = x -> {
            Twins.sixtyCalls(x);
            for (int i = 0; i < 8; i++) x.interrupt(7, i, i);
            for (int t = 0; t < 6; t++) x.task(t, t, t);
            x.run(0);
            for (int i = 1; i < 40; i++) x.enter(i % 20);
        };
        e.refused("routine: BAD, then FULL", full, x -> x.routine(501), BAD);
        e.refused("call: BAD, then FULL", full, x -> x.call(0, 20, false, true), BAD);
        e.refused("call: STATE, then FULL", full, x -> x.call(0, 2, false, true), STATE);
        e.refused("interrupt: BAD, then FULL", full, x -> x.interrupt(1, 0, 101), BAD);
        e.refused("task: BAD, then FULL", full, x -> x.task(0, 0, 101), BAD);
        e.refused("enter: BAD, then FULL", full, x -> x.enter(20), BAD);
        Twins.State three = x -> {
            for (int r = 0; r < 3; r++) x.routine(r);
        };
        e.refused("enter: BAD, then STATE", three, x -> x.enter(3), BAD);
        e.refused("over: BAD, then STATE", three, x -> x.over(3), BAD);
        e.refused("ran: BAD, then STATE", three, x -> x.ran(7), BAD);
        e.refused("flow: BAD, then STATE", three, x -> x.flow(8, 8), BAD);
        e.refused("cut: BAD, then STATE", three, x -> x.cut(0, 3, false, false), BAD);
        Twins.State endless = Twins::richAndEndless;
        e.refused("way: BAD, then STATE", endless, x -> x.way(5, -1), BAD);
        e.refused("way: STATE, then NONE", endless, x -> x.way(5, 20), STATE);
        e.refused("total: BAD, then ENDLESS", endless, x -> x.total(0, 4), BAD);
        e.refused("group: BAD, then ENDLESS", endless, x -> x.group(3), BAD);
        e.refused("saves: BAD, then ENDLESS", endless, x -> x.saves(0, 6), BAD);
        e.refused("best: BAD, then ENDLESS", endless, x -> x.best(3), BAD);
        e.refused("sheet: BAD, then SIZE", RICH, x -> x.sheet(0, 3, -1), BAD);
        e.refused("lay: BAD, then NULL", RICH, x -> x.lay(4, 0, 0), BAD);
        e.refused("lay: NULL, then INDEX", RICH, x -> x.lay(3, -1, 0), -11);
        e.refused("scan: BAD, then NULL", RICH, x -> x.scan(3, 0, 0, 21), BAD);
        e.refused("scan: NULL, then INDEX", RICH, x -> x.scan(3, 0, -1, 1), -11);
        e.refused("scan: CAST, then INDEX", RICH, x -> x.scan(0, 1, -1, 1), -13);
    }

    /** All kinds of refusals one behind the other, so that none prepares what another lets through. */
    private static void refusedInARow(Edges e) {
        Twins.Call[] all = {
            x -> x.routine(-1), x -> x.frame(0, -1), x -> x.turns(0, -1), x -> x.call(0, 1, false, false),
            x -> x.cut(1, 0, false, false), x -> x.take(3, 4), x -> x.flow(3, 2), x -> x.flow(3, 3),
            x -> x.goals(8), x -> x.about(0, 6), x -> x.depth(6), x -> x.way(0, 9), x -> x.endless(0),
            x -> x.interrupt(8, 0, 0), x -> x.task(0, 0, -1), x -> x.total(3, 0), x -> x.apart(1, 1, false),
            x -> x.group(3), x -> x.saves(0, 6), x -> x.best(3), x -> x.run(6), x -> x.enter(6), x -> x.over(6),
            x -> x.ran(7), x -> x.sheet(0, 0, -1), x -> x.lay(0, 10, 1), x -> x.lay(3, 0, 1),
            x -> x.scan(0, 0, 0, 4), x -> x.scan(0, 0, 1, 3), x -> x.scan(1, 1, 0, 2), x -> x.scan(2, 1, 0, 1),
            x -> x.scan(3, 1, 0, 1), x -> x.count(6),
        };
        StackDepths y = Twins.made(Twins::rich);
        for (int i = 0; i < all.length; i++) e.is("refusal " + i + " is below 0", all[i].on(y) < 0 ? 1 : 0, 1);
        e.is("all of them change something", Twins.difference(Twins::rich, all) == null ? 0 : 1, 0);
    }

    private static void twentyRoutines(Edges e) {
        StackDepths x = new StackDepths();
        for (int r = 0; r < 20; r++) e.is("the number", x.routine(0), r);
        e.is("the last is there", x.depth(19), 0);
        e.refused("the next", y -> {
            for (int r = 0; r < 20; r++) y.routine(r);
        }, y -> y.routine(0), FULL);
    }

    private static void frames(Edges e) {
        e.range("routine", RICH, v -> x -> x.routine(v), 0, 500);
        e.range("frame", RICH, v -> x -> x.frame(0, v), 0, 500);
        StackDepths x = Due.with(0, 500);
        e.is("the least frame", x.about(0, 0), 0);
        e.is("the greatest frame", x.about(1, 0), 500);
    }

    private static void turnsTold(Edges e) {
        e.range("turns", RICH, v -> x -> x.turns(0, v), 0, 20);
        StackDepths x = Due.with(3);
        e.is("not told at first", x.about(0, 1), 0);
        x.call(0, 0, false, false);
        e.is("not told: endless", x.depth(0), ENDLESS);
        x.turns(0, 1);
        e.is("one turn", x.depth(0), 3);
        x.turns(0, 20);
        e.is("twenty turns", x.depth(0), 60);
    }

    private static void sixtyCalls(Edges e) {
        StackDepths x = new StackDepths();
        for (int r = 0; r < 20; r++) x.routine(r);
        for (int i = 0; i < 60; i++) e.is("comes", x.call(i % 20, i / 20, false, true), i + 1);
        e.is("sixty", x.count(1), 60);
        e.refused("the next", Twins::sixtyCalls, y -> y.call(0, 0, true, false), FULL);
    }

    private static void eachCallOnce(Edges e) {
        Twins.State four = x -> {
            x.routine(1);
            x.routine(2);
            for (int kind = 0; kind < 4; kind++) x.call(0, 1, kind >= 2, kind % 2 == 1);
        };
        e.is("four kinds are four", Twins.made(four).count(1), 4);
        for (int kind = 0; kind < 4; kind++) {
            boolean pointer = kind >= 2, tail = kind % 2 == 1;
            e.refused("kind " + kind + " again", four, x -> x.call(0, 1, pointer, tail), STATE);
        }
        e.is("the other way is another", Twins.made(four).call(1, 0, false, false), 5);
    }

    private static void eightPointers(Edges e) {
        e.range("goals", RICH, p -> x -> x.goals(p), 0, 7);
        e.range("take", RICH, p -> x -> x.take(p, 3), 0, 7);
        e.range("flow into", RICH, p -> x -> x.flow(p, 6), 0, 7);
        e.range("flow of", RICH, q -> x -> x.flow(6, q), 0, 7);
        e.range("call by", RICH, p -> x -> x.call(5, p, true, false), 0, 7);
        e.range("cut of", RICH, p -> x -> x.cut(5, p, true, false), 0, 7);
    }

    private static void goalsFlowOn(Edges e) {
        StackDepths up = Due.with(1, 1), down = Due.with(1, 1), round = Due.with(1, 1, 1);
        for (int p = 0; p < 7; p++) {
            up.flow(p + 1, p);
            down.flow(p, p + 1);
            round.flow(p + 1, p);
        }
        up.take(0, 1);
        down.take(7, 1);
        for (int p = 0; p < 8; p++) {
            e.is("upward to " + p, up.goals(p), 2);
            e.is("downward to " + p, down.goals(p), 2);
        }
        round.flow(0, 7);
        round.take(3, 2);
        round.take(6, 0);
        for (int p = 0; p < 8; p++) e.is("round to " + p, round.goals(p), 5);
        StackDepths two = Due.with(1, 1, 1, 1);
        for (int p = 0; p < 3; p++) two.take(p, p);
        two.flow(4, 2);
        two.flow(4, 0);
        two.flow(5, 4);
        two.flow(5, 1);
        e.is("of two", two.goals(4), 5);
        e.is("of two, one of them of two", two.goals(5), 7);
        StackDepths late = Due.with(1);
        late.take(0, 0);
        late.flow(1, 2);
        late.flow(2, 0);
        e.is("what flowed in later flows on", late.goals(1), 1);
        e.is("not back", Twins.made(Twins::rich).goals(2), 32);
    }

    private static void noGoalsAndAllGoals(Edges e) {
        StackDepths x = new StackDepths();
        for (int r = 0; r < 20; r++) x.routine(r + 1);
        x.call(0, 7, true, false);
        e.is("without goals nothing is called", x.about(0, 4), 0);
        e.is("and it is no deeper", x.depth(0), 1);
        e.is("but there is a call", x.count(1), 1);
        for (int r = 1; r < 20; r++) x.take(7, r);
        e.is("nineteen goals", x.about(0, 4), 19);
        e.is("are one call", x.count(1), 1);
        e.is("the greatest of them", x.depth(0), 21);
        x.take(7, 0);
        e.is("itself too", x.about(0, 2), 1);
        StackDepths two = Due.with(1, 1, 1);
        two.take(0, 1);
        two.take(6, 2);
        two.call(0, 0, true, true);
        two.call(0, 6, true, true);
        e.is("by two pointers", two.about(0, 4), 2);
    }

    private static void reaches(Edges e) {
        StackDepths x = new StackDepths();
        for (int r = 0; r < 20; r++) x.routine(1);
        e.is("nobody", x.about(0, 4), 0);
        e.is("not even itself", x.about(0, 5), 0);
        for (int r = 0; r < 19; r++) x.call(r, r + 1, false, r % 2 == 0);
        e.is("through nineteen calls", x.about(0, 4), 19);
        e.is("by nineteen", x.about(19, 5), 19);
        e.is("not back", x.about(19, 4), 0);
        x.call(19, 0, false, true);
        e.is("round: itself too", x.about(7, 4), 20);
        e.is("round: by itself too", x.about(7, 5), 20);
        x.cut(4, 5, false, true);
        e.is("cut", x.about(5, 5), 0);
        StackDepths down = new StackDepths();
        for (int r = 0; r < 20; r++) down.routine(1);
        for (int r = 19; r > 0; r--) down.call(r, r - 1, false, false);
        e.is("downward through nineteen", down.about(19, 4), 19);
    }

    private static void togetherAlone(Edges e) {
        StackDepths x = Due.with(1, 1, 1);
        e.is("alone it is one with itself", x.about(2, 3), 2);
        x.call(2, 0, false, true);
        e.is("one way is not each other", x.about(2, 3), 2);
        x.call(0, 1, false, true);
        x.call(1, 2, false, true);
        e.is("each reaches the other one", x.about(2, 3), 0);
    }

    private static void ringOfOneCall(Edges e) {
        StackDepths x = Due.with(1, 1, 1);
        e.is("no call", x.about(0, 2), 0);
        x.call(0, 0, false, true);
        e.is("a tail to itself", x.about(0, 2), 0);
        x.call(0, 0, false, false);
        e.is("a call to itself", x.about(0, 2), 1);
        x.cut(0, 0, false, false);
        x.call(0, 1, false, true);
        x.call(1, 2, false, true);
        x.call(2, 0, false, true);
        e.is("tails alone", x.about(1, 2), 0);
        x.call(2, 0, false, false);
        for (int r = 0; r < 3; r++) e.is("one that is no tail makes all a ring", x.about(r, 2), 1);
        StackDepths y = Due.with(1, 1, 1);
        y.call(0, 1, false, true);
        y.call(1, 0, false, true);
        y.call(0, 2, false, false);
        e.is("one out of them does not", y.about(0, 2), 0);
        y.call(2, 2, false, true);
        e.is("nor one into tails", y.about(2, 2), 0);
    }

    private static void ringWithNothingBeyond(Edges e) {
        StackDepths x = Due.with(10, 7, 0);
        x.call(0, 0, false, false);
        x.turns(0, 3);
        e.is("nothing beyond", x.depth(0), 30);
        x.call(0, 2, false, false);
        e.is("beyond it a frame of 0", x.depth(0), 30);
        x.call(0, 1, false, true);
        e.is("a tail out of it counts on top", x.depth(0), 37);
        StackDepths y = Due.with(0);
        y.call(0, 0, false, false);
        y.turns(0, 20);
        e.is("a ring without frames", y.depth(0), 0);
    }

    private static void oneWithoutTurns(Edges e) {
        Twins.State ring = x -> {
            for (int r = 0; r < 3; r++) {
                x.routine(0);
                x.turns(r, 1);
            }
            for (int r = 0; r < 3; r++) x.call(r, (r + 1) % 3, false, r == 1);
        };
        e.is("all told", Twins.made(ring).depth(0), 0);
        for (int r = 0; r < 3; r++) {
            int untold = r;
            Twins.State one = ring.and(x -> x.turns(untold, 0));
            for (int s = 0; s < 3; s++) {
                int asked = s;
                e.refused(r + " is not told: " + s, one, x -> x.depth(asked), ENDLESS);
            }
        }
    }

    private static void tailsAlone(Edges e) {
        StackDepths x = Due.with(5, 30, 7);
        e.is("one of them", x.depth(0), 5);
        x.turns(0, 20);
        e.is("turns count for nothing there", x.depth(0), 5);
        x.call(0, 1, false, true);
        x.call(1, 2, false, true);
        x.call(2, 0, false, true);
        for (int r = 0; r < 3; r++) e.is("tails alone: the greatest", x.depth(r), 30);
        x.call(0, 0, false, true);
        e.is("and a tail to itself", x.depth(0), 30);
    }

    private static void callsNothing(Edges e) {
        StackDepths x = Due.with(5, 0);
        e.is("nothing", x.depth(0), 5);
        e.is("nothing, without a frame", x.depth(1), 0);
        x.call(0, 1, false, false);
        e.is("something of 0", x.depth(0), 5);
    }

    private static void tailsWithin(Edges e) {
        StackDepths x = Due.with(5, 6, 6, 7);
        x.call(0, 1, false, true);
        e.is("a tail that is deeper", x.depth(0), 6);
        x.frame(1, 5);
        e.is("one that is as deep", x.depth(0), 5);
        x.frame(1, 4);
        e.is("one that is less", x.depth(0), 5);
        x.call(1, 0, false, true);
        e.is("together: the frame of the other", x.depth(1), 5);
        x.call(1, 3, false, true);
        e.is("a tail out of them", x.depth(0), 7);
        e.is("for both", x.depth(1), 7);
    }

    private static void endlessBelow(Edges e) {
        Twins.State below = x -> {
            for (int r = 0; r < 6; r++) x.routine(100);
            x.call(0, 0, false, false);
            x.call(1, 0, false, false);
            x.call(2, 0, false, true);
            x.call(3, 3, false, false);
            x.turns(3, 2);
            x.call(3, 2, false, true);
            x.call(4, 1, false, true);
            x.call(4, 5, false, true);
            x.call(5, 4, false, true);
        };
        e.refused("a call", below, x -> x.depth(1), ENDLESS);
        e.refused("a tail", below, x -> x.depth(2), ENDLESS);
        e.refused("beyond a ring that has turns", below, x -> x.depth(3), ENDLESS);
        e.refused("a tail out of tails", below, x -> x.depth(4), ENDLESS);
        e.refused("one together with that", below, x -> x.depth(5), ENDLESS);
        StackDepths told = Twins.made(below);
        told.turns(0, 1);
        e.is("told: a call", told.depth(1), 200);
        e.is("told: beyond a ring", told.depth(3), 300);
        e.is("told: tails", told.depth(5), 200);
    }

    private static void eightInterrupts(Edges e) {
        StackDepths x = Due.with(1);
        for (int i = 0; i < 8; i++) e.is("the number", x.interrupt(7, 0, i), i);
        x.task(0, 6, 0);
        e.is("the last counts", x.total(0, 1), 8);
        e.refused("the next", EdgesOfTasks::eightInterrupts, y -> y.interrupt(1, 0, 100), FULL);
    }

    private static void ranksAndSaved(Edges e) {
        e.range("rank", RICH, v -> x -> x.interrupt(v, 0, 0), 1, 7);
        e.range("routine", RICH, v -> x -> x.interrupt(1, v, 0), 0, 5);
        e.range("saved", RICH, v -> x -> x.interrupt(1, 0, v), 0, 100);
    }

    private static void sixTasks(Edges e) {
        StackDepths x = Due.with(1);
        for (int t = 0; t < 6; t++) e.is("the number", x.task(0, 0, t), t);
        e.is("the last counts", x.total(5, 3), 6);
        e.refused("the next", EdgesOfTasks::sixTasks, y -> y.task(0, 0, 100), FULL);
    }

    private static void ranksAndGuards(Edges e) {
        e.range("routine", RICH, v -> x -> x.task(v, 0, 0), 0, 5);
        e.range("rank", RICH, v -> x -> x.task(0, v, 0), 0, 7);
        e.range("guard", RICH, v -> x -> x.task(0, 0, v), 0, 100);
    }

    private static void ranksAbove(Edges e) {
        for (int rank = 0; rank <= 7; rank++) {
            StackDepths x = Due.with(1);
            for (int i = 1; i <= 7; i++) x.interrupt(i, 0, 0);
            x.task(0, rank, 0);
            e.is("interrupts above " + rank, x.total(0, 1), 7 - rank);
        }
    }

    private static void ranksWithoutInterrupts(Edges e) {
        StackDepths x = Due.with(1, 0);
        x.task(0, 0, 0);
        e.is("no interrupts", x.total(0, 1), 0);
        x.interrupt(7, 1, 0);
        e.is("one of nothing", x.total(0, 1), 0);
        x.interrupt(1, 1, 100);
        e.is("ranks between have none", x.total(0, 1), 100);
        x.interrupt(7, 0, 99);
        e.is("the first rank and the last", x.total(0, 1), 200);
        x.interrupt(7, 0, 98);
        e.is("the greatest of a rank alone", x.total(0, 1), 200);
    }

    private static void endlessTotals(Edges e) {
        Twins.State state = x -> {
            x.routine(1);
            x.routine(2);
            x.call(1, 1, false, false);
            x.interrupt(4, 1, 0);
            x.task(0, 3, 0);
            x.task(0, 4, 0);
            x.task(1, 7, 0);
        };
        StackDepths y = Twins.made(state);
        e.is("depth is not", y.total(0, 0), 1);
        for (int what = 1; what <= 3; what++) {
            int asked = what;
            e.refused("by top: " + what, state, x -> x.total(0, asked), ENDLESS);
            e.is("not by an interrupt of its own rank: " + what, y.total(1, what), what == 1 ? 0 : 1);
        }
        e.is("top is not", y.total(2, 1), 0);
        for (int what : new int[] {0, 2, 3}) {
            e.refused("by depth: " + what, state, x -> x.total(2, what), ENDLESS);
        }
    }

    private static void groupsAreApart(Edges e) {
        StackDepths x = EdgesOfTasks.withRooms(10, 10, 10);
        e.is("none is apart", x.shared(), 30);
        x.apart(0, 1, true);
        x.apart(1, 2, true);
        e.is("0 and 2 are not", x.shared(), 20);
        e.is("so 2 is alone", x.group(2), 1);
        x.apart(2, 0, true);
        e.is("all are", x.shared(), 10);
        e.is("in one group", x.group(2), 0);
        e.is("a group has the greatest room", EdgesOfTasks.allApart(3, 9, 5).shared(), 9);
    }

    private static void leastGroups(Edges e) {
        StackDepths x = EdgesOfTasks.withRooms(10, 10, 10, 10);
        x.apart(0, 2, true);
        x.apart(0, 3, true);
        x.apart(1, 2, true);
        x.apart(1, 3, true);
        e.is("two ways have 20", x.shared(), 20);
        e.is("0's", x.group(0), 0);
        e.is("1's", x.group(1), 1);
        e.is("2's is the least", x.group(2), 0);
        e.is("then 3's", x.group(3), 1);
        StackDepths none = EdgesOfTasks.allApart(0, 0, 0);
        e.is("rooms of 0 could be anywhere: 1's", none.group(1), 0);
        e.is("2's", none.group(2), 0);
        StackDepths small = EdgesOfTasks.withRooms(10, 10, 3);
        small.apart(0, 2, true);
        small.apart(1, 2, true);
        e.is("a small one could go by either", small.group(2), 0);
    }

    private static void groupNumbers(Edges e) {
        StackDepths x = EdgesOfTasks.withRooms(1, 9, 9, 1, 9, 9);
        for (int t = 0; t < 6; t++) e.is("each alone", x.group(t), t);
        x.apart(1, 4, true);
        x.apart(2, 5, true);
        int[] groups = {0, 1, 2, 3, 1, 2};
        for (int t = 0; t < 6; t++) e.is("pairs, task " + t, x.group(t), groups[t]);
    }

    private static void frameGoesFirst(Edges e) {
        StackDepths x = Due.with(500, 499);
        x.run(0);
        e.is("in its place", x.over(1), 499);
        e.is("both were never there", x.ran(1), 500);
        e.is("one is there", x.ran(2), 1);
        x.turns(1, 1);
        x.over(1);
        e.is("itself in its own place is there once", x.ran(4), 0);
    }

    private static void strange(Edges e) {
        StackDepths x = Due.with(1, 1, 1);
        x.call(0, 1, false, false);
        x.call(0, 2, false, true);
        x.run(0);
        x.enter(1);
        e.is("a call for enter", x.ran(3), 0);
        x.run(0);
        x.enter(2);
        e.is("a tail for enter", x.ran(3), 1);
        x.run(0);
        x.over(2);
        e.is("a tail for over", x.ran(3), 0);
        x.run(0);
        x.over(1);
        e.is("a call for over", x.ran(3), 1);
        x.run(0);
        x.enter(0);
        e.is("no call", x.ran(3), 1);
        x.run(1);
        e.is("a run begins without a step", x.ran(3), 0);
    }

    private static void over(Edges e) {
        StackDepths x = Due.with(1, 1);
        x.turns(0, 1);
        x.run(0);
        e.is("once is not over", x.ran(4), 0);
        x.enter(0);
        e.is("twice is", x.ran(4), 1);
        x.enter(1);
        x.enter(1);
        e.is("turns that are not told are never over", x.ran(4), 1);
        x.over(0);
        e.is("to go over counts too", x.ran(4), 2);
        x.turns(0, 20);
        x.run(0);
        for (int i = 2; i <= 20; i++) x.enter(0);
        e.is("twenty of twenty", x.ran(4), 0);
        x.enter(0);
        e.is("one more", x.ran(4), 1);
    }

    private static void fourSheets(Edges e) {
        e.range("sheet", RICH, k -> x -> x.sheet(k, 0, 1), 0, 3);
        e.range("lay", RICH, k -> x -> x.lay(k, 0, 0), 0, 3);
        e.range("scan", RICH, k -> x -> x.scan(k, 0, 0, 0), 0, 3);
        StackDepths x = new StackDepths();
        for (int k = 0; k < 4; k++) x.sheet(k, 0, k + 1);
        for (int k = 0; k < 4; k++) {
            e.is("each has its own cells", x.lay(k, k, 0), 1);
            e.is("and no more", x.lay(k, k + 1, 0), -12);
        }
    }

    private static void lanes(Edges e) {
        e.range("sheet", RICH, lane -> x -> x.sheet(0, lane, 1), 0, 2);
        e.range("scan", RICH, lane -> x -> x.scan(0, lane, 0, 0), 0, 2);
        int[] wraps = {256, 65536, 0};
        for (int lane = 0; lane < 3; lane++) {
            int of = lane;
            StackDepths x = Due.with(1, 1);
            Twins.lay(x, 0, lane, wraps[lane] + 1, wraps[lane], wraps[lane] + 1);
            e.is("a wrap-around in lane " + lane, x.scan(0, lane, 0, 1), 1);
            e.is("came", x.cut(1, 0, false, true), 0);
            Twins.State below = y -> {
                y.routine(1);
                Twins.lay(y, 0, of, wraps[of] / 2 - (of == 2 ? 1 : 0), 0, 0);
            };
            e.refused("its highest bit is below 0", below, y -> y.scan(0, of, 0, 1), -21);
        }
        Twins.State shorts = y -> {
            y.routine(1);
            Twins.lay(y, 0, 1, 256, 0, 0);
            Twins.lay(y, 1, 2, 65536, 0, 0);
        };
        e.refused("shorts hold more than bytes", shorts, y -> y.scan(0, 1, 0, 1), -21);
        e.refused("ints hold more than shorts", shorts, y -> y.scan(1, 2, 0, 1), -21);
    }

    private static void cells(Edges e) {
        e.refused("nothing at first", EMPTY, x -> x.count(5), NONE);
        for (int k = 0; k < 4; k++) {
            int of = k;
            e.refused("nothing to lay on", EMPTY, x -> x.lay(of, 0, 0), -11);
        }
        StackDepths x = new StackDepths();
        e.is("no cells", x.sheet(0, 0, 0), 1);
        e.is("are not nothing", x.count(5), 0);
        e.is("but there is no cell", x.lay(0, 0, 0), -12);
        e.is("sixty cells", x.sheet(0, 0, 60), 1);
        e.is("sixty are there", x.count(5), 60);
        e.is("the last", x.lay(0, 59, 0), 1);
        e.is("none behind it", x.lay(0, 60, 0), -12);
        e.refused("sixty-one", RICH, y -> y.sheet(0, 0, 61), BAD);
    }

    private static void faults(Edges e) {
        e.refused("NULL", RICH, x -> x.scan(3, 0, 0, 1), -11);
        e.refused("INDEX", RICH, x -> x.scan(0, 0, 8, 1), -12);
        e.refused("CAST", RICH, x -> x.scan(0, 1, 0, 1), -13);
        e.refused("SIZE", RICH, x -> x.sheet(0, 0, -1), -14);
        e.refused("SIZE of the least number", RICH, x -> x.sheet(0, 0, MIN), -14);
    }
}
