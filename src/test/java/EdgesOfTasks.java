/** The boundary cases that promises 14 to 21 name. */
final class EdgesOfTasks {
    private static final int BAD = -1, FULL = -3, NONE = -4, ENDLESS = -5;
    private static final Twins.State RICH = Twins::rich, EMPTY = x -> {}, ENDLESSLY = Twins::richAndEndless;

    private EdgesOfTasks() {}

    static void tell(Edges e) {
        e.edge("Promise 14", "An INTERRUPT: its number", EdgesOfTasks::interruptNumbers);
        e.edge("Promise 14", "BAD", EdgesOfTasks::interruptBad);
        e.edge("Promise 14", "FULL", EdgesOfTasks::interruptFull);
        e.edge("Promise 15", "A TASK: its number", EdgesOfTasks::taskNumbers);
        e.edge("Promise 15", "BAD", EdgesOfTasks::taskBad);
        e.edge("Promise 15", "FULL", EdgesOfTasks::taskFull);
        e.edge("Promise 16", "0 DEPTH, 1 TOP, 2 TOTAL, 3 ROOM", EdgesOfTasks::totalLeastAndGreatest);
        e.edge("Promise 16", "BAD", EdgesOfTasks::totalBad);
        e.edge("Promise 16", "ENDLESS", EdgesOfTasks::totalEndless);
        e.edge("Promise 17", "whether they were (1, 0)", EdgesOfTasks::apartWere);
        e.edge("Promise 17", "BAD", EdgesOfTasks::apartBad);
        e.edge("Promise 17", "BAD: also one and the same", EdgesOfTasks::apartOneAndTheSame);
        e.edge("Promise 18", "THE LEAST sum of SHARED", EdgesOfTasks::sharedBySixTasks);
        e.edge("Promise 18", "(no TASKS: 0)", EdgesOfTasks::sharedByNone);
        e.edge("Promise 18", "ENDLESS: a ROOM is", EdgesOfTasks::sharedEndless);
        e.edge("Promise 19", "The group of a TASK in that", EdgesOfTasks::groupOfTheLeastSum);
        e.edge("Promise 19", "BAD", EdgesOfTasks::groupBad);
        e.edge("Promise 19", "ENDLESS", EdgesOfTasks::groupEndless);
        e.edge("Promise 20", "if a ROUTINE's FRAME were 0", EdgesOfTasks::savesNothingOrAll);
        e.edge("Promise 20", "BAD", EdgesOfTasks::savesBad);
        e.edge("Promise 20", "ENDLESS: TOTAL is", EdgesOfTasks::savesEndless);
        e.edge("Promise 21", "the least of several", EdgesOfTasks::bestOfSeveral);
        e.edge("Promise 21", "BAD", EdgesOfTasks::bestBad);
        e.edge("Promise 21", "ENDLESS", EdgesOfTasks::bestEndless);
        e.edge("Promise 21", "NONE: there are no ROUTINES that save", EdgesOfTasks::bestNone);
    }

    static void eightInterrupts(StackDepths x) {
        x.routine(3);
        x.task(0, 0, 0);
        for (int i = 0; i < 8; i++) x.interrupt(i < 7 ? i + 1 : 1, 0, i);
    }

    static void sixTasks(StackDepths x) {
        for (int t = 0; t < 6; t++) {
            x.routine(t + 1);
            x.task(t, t, t);
        }
    }

    static StackDepths withRooms(int... rooms) {
        StackDepths x = new StackDepths();
        for (int t = 0; t < rooms.length; t++) {
            x.routine(rooms[t]);
            x.task(t, 0, 0);
        }
        return x;
    }

    static StackDepths allApart(int... rooms) {
        StackDepths x = withRooms(rooms);
        for (int t = 0; t < rooms.length; t++) {
            for (int u = 0; u < t; u++) x.apart(t, u, true);
        }
        return x;
    }

    private static void interruptNumbers(Edges e) {
        StackDepths x = Due.with(4);
        e.is("the first", x.interrupt(7, 0, 100), 0);
        x.interrupt(8, 0, 100);
        e.is("a refused one takes no number", x.interrupt(1, 0, 0), 1);
        x.task(0, 0, 0);
        e.is("both count", x.total(0, 1), 108);
    }

    private static void interruptBad(Edges e) {
        e.range("rank", RICH, v -> x -> x.interrupt(v, 0, 100), 1, 7);
        e.range("routine", RICH, v -> x -> x.interrupt(7, v, 100), 0, 5);
        e.range("saved", RICH, v -> x -> x.interrupt(7, 0, v), 0, 100);
        e.refused("rank 0 is a task's alone", RICH, x -> x.interrupt(0, 0, 100), BAD);
        e.refused("without routines", EMPTY, x -> x.interrupt(1, 0, 0), BAD);
    }

    private static void interruptFull(Edges e) {
        e.refused("the ninth", EdgesOfTasks::eightInterrupts, x -> x.interrupt(7, 0, 100), FULL);
        e.refused("BAD goes before", EdgesOfTasks::eightInterrupts, x -> x.interrupt(7, 1, 100), BAD);
        StackDepths x = Due.with(1);
        for (int i = 0; i < 7; i++) x.interrupt(1, 0, 0);
        e.is("the eighth", x.interrupt(1, 0, 0), 7);
    }

    private static void taskNumbers(Edges e) {
        StackDepths x = Due.with(4);
        e.is("the first", x.task(0, 7, 100), 0);
        x.task(0, 8, 100);
        e.is("a refused one takes no number", x.task(0, 0, 0), 1);
        e.is("the greatest guard", x.total(0, 3), 104);
        e.is("the least guard", x.total(1, 3), 4);
    }

    private static void taskBad(Edges e) {
        e.range("routine", RICH, v -> x -> x.task(v, 0, 50), 0, 5);
        e.range("rank", RICH, v -> x -> x.task(0, v, 50), 0, 7);
        e.range("guard", RICH, v -> x -> x.task(0, 0, v), 0, 100);
        e.refused("without routines", EMPTY, x -> x.task(0, 0, 0), BAD);
    }

    private static void taskFull(Edges e) {
        e.refused("the seventh", EdgesOfTasks::sixTasks, x -> x.task(0, 0, 100), FULL);
        e.refused("BAD goes before", EdgesOfTasks::sixTasks, x -> x.task(6, 0, 100), BAD);
        StackDepths x = Due.with(1);
        for (int t = 0; t < 5; t++) x.task(0, 0, 0);
        e.is("the sixth", x.task(0, 0, 0), 5);
    }

    private static void totalLeastAndGreatest(Edges e) {
        StackDepths none = Due.with(0);
        none.task(0, 0, 0);
        for (int what = 0; what <= 3; what++) e.is("nothing at all, " + what, none.total(0, what), 0);
        StackDepths most = new StackDepths();
        for (int r = 0; r < 20; r++) {
            most.routine(500);
            most.turns(r, 20);
        }
        for (int r = 0; r < 20; r++) most.call(r, (r + 1) % 20, false, false);
        for (int rank = 1; rank <= 7; rank++) most.interrupt(rank, rank, 100);
        most.task(0, 0, 100);
        e.is("the greatest depth", most.total(0, 0), 200000);
        e.is("the greatest top", most.total(0, 1), 7 * 200100);
        e.is("the greatest total", most.total(0, 2), 200000 + 7 * 200100);
        e.is("the greatest room", most.total(0, 3), 200100 + 7 * 200100);
    }

    private static void totalBad(Edges e) {
        e.range("a task", RICH, t -> x -> x.total(t, 3), 0, 2);
        e.range("what", RICH, what -> x -> x.total(0, what), 0, 3);
        e.refused("of none", EMPTY, x -> x.total(0, 0), BAD);
        e.refused("of six", EdgesOfTasks::sixTasks, x -> x.total(6, 0), BAD);
    }

    private static void totalEndless(Edges e) {
        for (int what = 0; what <= 3; what++) {
            int asked = what;
            e.refused("of task 0, " + what, ENDLESSLY, x -> x.total(0, asked), ENDLESS);
        }
        e.is("its depth is not", Twins.made(ENDLESSLY).total(2, 0), 40);
        for (int what = 1; what <= 3; what++) {
            int asked = what;
            e.refused("of task 2 by its top, " + what, ENDLESSLY, x -> x.total(2, asked), ENDLESS);
        }
        e.refused("BAD goes before", ENDLESSLY, x -> x.total(0, -1), BAD);
    }

    private static void apartWere(Edges e) {
        StackDepths x = Twins.made(EdgesOfTasks::sixTasks);
        for (int t = 0; t < 6; t++) {
            for (int u = 0; u < t; u++) e.is("at first not", x.apart(t, u, true), 0);
        }
        for (int t = 0; t < 6; t++) {
            for (int u = 0; u < t; u++) e.is("they were, from the other side", x.apart(u, t, true), 1);
        }
        e.is("they were", x.apart(5, 0, false), 1);
        e.is("they were not", x.apart(0, 5, false), 0);
        e.is("still not", x.apart(5, 0, true), 0);
        e.is("now they were", x.apart(5, 0, true), 1);
        for (int t = 0; t < 6; t++) {
            for (int u = 0; u < 6; u++) {
                if (t == u) continue;
                e.is("made not apart", x.apart(t, u, false), 1);
                e.is("no longer, from that side", x.apart(t, u, false), 0);
                e.is("no longer, from the other side", x.apart(u, t, true), 0);
            }
        }
        StackDepths two = Twins.made(EdgesOfTasks::sixTasks);
        two.apart(2, 4, true);
        two.apart(2, 4, false);
        for (int t = 0; t < 6; t++) {
            for (int u = 0; u < 6; u++) {
                if (t != u) e.is("the others never were", two.apart(t, u, false), 0);
            }
        }
    }

    private static void apartBad(Edges e) {
        for (int i = 0; i < 2; i++) {
            boolean on = i == 1;
            e.range("t, on " + i, RICH, t -> x -> x.apart(t, 1, on), 0, 2);
            e.range("u, on " + i, RICH, u -> x -> x.apart(1, u, on), 0, 2);
        }
        e.refused("of none", EMPTY, x -> x.apart(0, 1, true), BAD);
        e.refused("of one", x -> {
            x.routine(1);
            x.task(0, 0, 0);
        }, x -> x.apart(0, 1, true), BAD);
    }

    private static void apartOneAndTheSame(Edges e) {
        for (int t = 0; t < 6; t++) {
            int one = t;
            e.refused("made apart " + t, EdgesOfTasks::sixTasks, x -> x.apart(one, one, true), BAD);
            e.refused("made not apart " + t, EdgesOfTasks::sixTasks, x -> x.apart(one, one, false), BAD);
        }
    }

    private static void sharedBySixTasks(Edges e) {
        e.is("one task", withRooms(7).shared(), 7);
        e.is("six, none apart", withRooms(1, 2, 4, 8, 16, 32).shared(), 63);
        e.is("six, all apart", allApart(1, 2, 4, 8, 16, 32).shared(), 32);
        StackDepths pairs = withRooms(32, 1, 16, 2, 8, 4);
        pairs.apart(0, 2, true);
        pairs.apart(2, 4, true);
        pairs.apart(4, 0, true);
        e.is("three of six", pairs.shared(), 32 + 1 + 2 + 4);
        StackDepths path = withRooms(9, 10, 10, 9);
        path.apart(0, 1, true);
        path.apart(1, 2, true);
        path.apart(2, 3, true);
        e.is("two pairs, not the first two greatest", path.shared(), 20);
        e.is("no frames, guards alone", Twins.made(x -> {
            x.routine(0);
            x.task(0, 7, 100);
            x.task(0, 7, 99);
            x.apart(0, 1, true);
        }).shared(), 100);
    }

    private static void sharedByNone(Edges e) {
        e.is("a new object", new StackDepths().shared(), 0);
        StackDepths x = Due.with(500);
        x.call(0, 0, false, false);
        x.interrupt(1, 0, 100);
        e.is("something endless, but no tasks", x.shared(), 0);
    }

    private static void sharedEndless(Edges e) {
        e.refused("all are", ENDLESSLY, x -> x.shared(), ENDLESS);
        Twins.State last = x -> {
            sixTasks(x);
            x.call(5, 5, false, false);
        };
        e.refused("the last of six is", last, x -> x.shared(), ENDLESS);
        Twins.State top = x -> {
            sixTasks(x);
            x.routine(1);
            x.call(6, 6, false, false);
            x.interrupt(1, 6, 0);
        };
        e.refused("the first of six is, by its top", top, x -> x.shared(), ENDLESS);
        Twins.State apart = last.and(x -> x.apart(5, 0, true));
        e.refused("apart does not help", apart, x -> x.shared(), ENDLESS);
        StackDepths told = Twins.made(last);
        told.turns(5, 1);
        e.is("turns do", told.shared(), 21 + 15);
    }

    private static void groupOfTheLeastSum(Edges e) {
        e.is("of one", withRooms(0).group(0), 0);
        StackDepths x = withRooms(9, 10, 10, 9);
        x.apart(0, 1, true);
        x.apart(1, 2, true);
        x.apart(2, 3, true);
        int[] pairs = {0, 0, 1, 1};
        for (int t = 0; t < 4; t++) e.is("pairs, " + t, x.group(t), pairs[t]);
        x.apart(1, 2, false);
        x.apart(0, 1, false);
        int[] rest = {0, 1, 2, 2};
        for (int t = 0; t < 4; t++) e.is("one pair, " + t, x.group(t), rest[t]);
        StackDepths all = allApart(1, 1, 1, 1, 1, 1);
        for (int t = 0; t < 6; t++) e.is("all apart, " + t, all.group(t), 0);
        all.apart(2, 4, false);
        e.is("but two: the later one", all.group(4), 1);
        e.is("those behind it go back to the first", all.group(5), 0);
    }

    private static void groupBad(Edges e) {
        e.range("a task", RICH, t -> x -> x.group(t), 0, 2);
        e.refused("of none", EMPTY, x -> x.group(0), BAD);
        e.refused("of six", EdgesOfTasks::sixTasks, x -> x.group(6), BAD);
        e.refused("before ENDLESS", ENDLESSLY, x -> x.group(3), BAD);
    }

    private static void groupEndless(Edges e) {
        Twins.State last = x -> {
            sixTasks(x);
            x.call(5, 5, false, false);
        };
        for (int t = 0; t < 6; t++) {
            int asked = t;
            e.refused("task " + t + ", as the last is", last, x -> x.group(asked), ENDLESS);
        }
    }

    private static void savesNothingOrAll(Edges e) {
        StackDepths x = Twins.made(RICH);
        e.is("its own frame", x.saves(0, 0), 10);
        e.is("one that is not the deepest", x.saves(0, 1), 0);
        e.is("one that is not reached", x.saves(0, 3), 0);
        e.is("one whose frame is 0", x.saves(0, 5), 0);
        e.is("until another is the deepest", x.saves(0, 4), 20);
        e.is("in an interrupt alone, until the tail's frame", x.saves(2, 2), 9);
        e.is("the frame is there yet", x.about(2, 0), 30);
        StackDepths all = Due.with(500);
        all.call(0, 0, false, false);
        all.turns(0, 20);
        all.task(0, 0, 100);
        e.is("all but the guard", all.saves(0, 0), 10000);
        all.interrupt(7, 0, 100);
        e.is("and saved bytes", all.saves(0, 0), 20000);
    }

    private static void savesBad(Edges e) {
        e.range("a task", RICH, t -> x -> x.saves(t, 0), 0, 2);
        e.range("a routine", RICH, r -> x -> x.saves(0, r), 0, 5);
        e.refused("a task, before ENDLESS", ENDLESSLY, x -> x.saves(3, 0), BAD);
        e.refused("a routine, before ENDLESS", ENDLESSLY, x -> x.saves(0, 6), BAD);
        e.refused("of none", EMPTY, x -> x.saves(0, 0), BAD);
    }

    private static void savesEndless(Edges e) {
        for (int r = 0; r < 6; r++) {
            int asked = r;
            e.refused("by depth, routine " + r, ENDLESSLY, x -> x.saves(0, asked), ENDLESS);
            e.refused("by top, routine " + r, ENDLESSLY, x -> x.saves(2, asked), ENDLESS);
        }
        Twins.State elsewhere = RICH.and(x -> x.call(1, 1, false, false)).and(x -> x.turns(1, 0));
        e.refused("task 0 reaches it", elsewhere, x -> x.saves(0, 0), ENDLESS);
        e.is("task 1 does not", Twins.made(elsewhere).saves(1, 4), 50);
    }

    private static void bestOfSeveral(Edges e) {
        StackDepths x = Due.with(1, 5, 5, 5);
        for (int r = 0; r < 3; r++) x.call(r, r + 1, false, false);
        x.task(0, 0, 0);
        e.is("the least of three", x.best(0), 1);
        x.frame(3, 6);
        e.is("one that saves more", x.best(0), 3);
        x.frame(0, 6);
        e.is("the first of all", x.best(0), 0);
        StackDepths last = new StackDepths();
        for (int r = 0; r < 20; r++) last.routine(r);
        last.task(19, 7, 100);
        e.is("the last of all", last.best(0), 19);
        e.is("of rich ones", Twins.made(RICH).best(0), 4);
    }

    private static void bestBad(Edges e) {
        e.range("a task", RICH, t -> x -> x.best(t), 0, 2);
        e.refused("before ENDLESS", ENDLESSLY, x -> x.best(3), BAD);
        e.refused("of none", EMPTY, x -> x.best(0), BAD);
    }

    private static void bestEndless(Edges e) {
        e.refused("by depth", ENDLESSLY, x -> x.best(0), ENDLESS);
        e.refused("by top", ENDLESSLY, x -> x.best(2), ENDLESS);
        e.refused("where no one saves", x -> {
            x.routine(0);
            x.call(0, 0, false, false);
            x.task(0, 0, 0);
        }, x -> x.best(0), ENDLESS);
    }

    private static void bestNone(Edges e) {
        e.refused("frames of 0", x -> {
            x.routine(0);
            x.routine(500);
            x.task(0, 0, 100);
            x.interrupt(1, 0, 100);
        }, x -> x.best(0), NONE);
        e.refused("two ways that are as deep", x -> {
            for (int frame : new int[] {0, 5, 5}) x.routine(frame);
            x.call(0, 1, false, false);
            x.call(0, 2, false, false);
            x.task(0, 0, 0);
        }, x -> x.best(0), NONE);
        StackDepths one = Due.with(1, 500);
        one.task(0, 0, 0);
        e.is("one byte is saved", one.best(0), 0);
    }
}
