/** Promises 14 to 21: interrupts, tasks, totals, sharing, and what to cut. */
public final class TasksTest {
    private static final int BAD = -1, FULL = -3, NONE = -4, ENDLESS = -5;
    private static final Due due = new Due("TasksTest");

    public static void main(String[] args) {
        interrupt();
        task();
        total();
        totalEndless();
        apart();
        shared();
        sharedPairs();
        groupsOfEqualSums();
        sharedEndless();
        saves();
        best();
        due.end();
    }

    private static void interrupt() {
        StackDepths x = Due.with(1, 2);
        due.is("rank below", x.interrupt(0, 0, 0), BAD);
        due.is("rank above", x.interrupt(8, 0, 0), BAD);
        due.is("no routine", x.interrupt(1, 2, 0), BAD);
        due.is("no routine below", x.interrupt(1, -1, 0), BAD);
        due.is("saved below", x.interrupt(1, 0, -1), BAD);
        due.is("saved above", x.interrupt(1, 0, 101), BAD);
        due.is("none came", x.count(2), 0);
        for (int i = 0; i < 8; i++) {
            due.is("numbered", x.interrupt(i < 7 ? i + 1 : 7, 1, i == 0 ? 0 : 100), i);
        }
        due.is("full", x.interrupt(1, 0, 0), FULL);
        due.is("bad before full", x.interrupt(8, 0, 0), BAD);
        due.is("eight", x.count(2), 8);
        x.task(0, 0, 0);
        due.is("all of them on top", x.total(0, 1), 2 + 6 * 102);
    }

    private static void task() {
        StackDepths x = Due.with(1, 2);
        due.is("no routine", x.task(2, 0, 0), BAD);
        due.is("no routine below", x.task(-1, 0, 0), BAD);
        due.is("rank below", x.task(0, -1, 0), BAD);
        due.is("rank above", x.task(0, 8, 0), BAD);
        due.is("guard below", x.task(0, 0, -1), BAD);
        due.is("guard above", x.task(0, 0, 101), BAD);
        due.is("none came", x.count(3), 0);
        for (int t = 0; t < 6; t++) {
            due.is("numbered", x.task(1, t == 0 ? 0 : 7, t == 0 ? 0 : 100), t);
        }
        due.is("full", x.task(0, 0, 0), FULL);
        due.is("bad before full", x.task(0, 8, 0), BAD);
        due.is("six", x.count(3), 6);
    }

    private static void total() {
        StackDepths x = Due.with(10, 20, 30);
        x.task(0, 3, 9);
        due.is("no interrupts", x.total(0, 1), 0);
        x.interrupt(3, 2, 100);
        due.is("its own rank is not above", x.total(0, 1), 0);
        x.interrupt(4, 1, 5);
        x.interrupt(4, 2, 1);
        due.is("the greatest of one rank", x.total(0, 1), 31);
        x.interrupt(4, 1, 12);
        due.is("saved and depth count together", x.total(0, 1), 32);
        x.interrupt(7, 0, 0);
        due.is("ranks are summed", x.total(0, 1), 42);
        x.interrupt(1, 2, 100);
        due.is("a lower rank is not above", x.total(0, 1), 42);
        due.is("depth", x.total(0, 0), 10);
        due.is("total", x.total(0, 2), 52);
        due.is("room", x.total(0, 3), 61);
        due.is("what above", x.total(0, 4), BAD);
        due.is("what below", x.total(0, -1), BAD);
        due.is("no task", x.total(1, 0), BAD);
        due.is("no task below", x.total(-1, 0), BAD);
        x.task(0, 7, 0);
        due.is("nothing is above 7", x.total(1, 3), 10);
    }

    private static void totalEndless() {
        StackDepths x = Due.with(10, 20);
        x.call(1, 1, false, false);
        x.task(0, 1, 0);
        x.task(1, 7, 0);
        x.interrupt(2, 1, 0);
        due.is("depth alone is not", x.total(0, 0), 10);
        due.is("top is", x.total(0, 1), ENDLESS);
        due.is("total is", x.total(0, 2), ENDLESS);
        due.is("room is", x.total(0, 3), ENDLESS);
        due.is("depth is", x.total(1, 0), ENDLESS);
        due.is("top is not", x.total(1, 1), 0);
        due.is("total is, by depth", x.total(1, 2), ENDLESS);
        due.is("bad before endless", x.total(1, 4), BAD);
    }

    private static StackDepths withTasks(int... rooms) {
        StackDepths x = new StackDepths();
        for (int r = 0; r < rooms.length; r++) {
            x.routine(rooms[r]);
            x.task(r, 0, 0);
        }
        return x;
    }

    private static void apart() {
        StackDepths x = withTasks(1, 2, 3);
        due.is("were not", x.apart(0, 1, false), 0);
        due.is("become", x.apart(0, 1, true), 0);
        due.is("were", x.apart(0, 1, false), 1);
        due.is("no more, from the same side", x.apart(0, 1, true), 0);
        due.is("were, from the other side", x.apart(1, 0, true), 1);
        due.is("others are not", x.apart(1, 2, true), 0);
        due.is("no more", x.apart(1, 0, false), 1);
        due.is("from the first side", x.apart(0, 1, true), 0);
        due.is("one and the same", x.apart(1, 1, true), BAD);
        due.is("no task t", x.apart(3, 0, true), BAD);
        due.is("no task u", x.apart(0, 3, true), BAD);
        due.is("below", x.apart(-1, 0, true), BAD);
    }

    private static void shared() {
        StackDepths x = withTasks(5, 6, 7, 8);
        due.is("none apart: the sum", x.shared(), 26);
        due.is("own groups", x.group(3), 3);
        x.apart(0, 3, true);
        x.apart(1, 2, true);
        due.is("two pairs", x.shared(), 15);
        due.is("group of 0", x.group(0), 0);
        due.is("group of 1", x.group(1), 1);
        due.is("group of 2", x.group(2), 1);
        due.is("group of 3", x.group(3), 0);
        x.apart(0, 1, true);
        due.is("not all apart: no better", x.shared(), 15);
        due.is("no task", x.group(4), BAD);
        due.is("no task below", x.group(-1), BAD);
        due.is("no tasks: no group", new StackDepths().group(0), BAD);
    }

    private static void sharedPairs() {
        StackDepths x = withTasks(10, 9, 8, 7, 6, 5);
        for (int t = 0; t < 6; t++) {
            for (int u = t + 1; u < 6; u++) {
                x.apart(t, u, true);
            }
        }
        due.is("all apart: the greatest", x.shared(), 10);
        due.is("all in one group", x.group(5), 0);
        x.apart(0, 1, false);
        due.is("but two", x.shared(), 19);
        due.is("then the second group", x.group(1), 1);
        due.is("the rest by the first", x.group(5), 0);
        x.apart(0, 5, false);
        x.apart(0, 4, false);
        due.is("some must go by the second", x.shared(), 19);
        due.is("4 is by the second", x.group(4), 1);
        due.is("2 is by the first", x.group(2), 0);
    }

    private static void groupsOfEqualSums() {
        StackDepths x = withTasks(10, 10, 10);
        x.apart(0, 2, true);
        x.apart(1, 2, true);
        due.is("both ways are 20", x.shared(), 20);
        due.is("the lesser group", x.group(2), 0);
        StackDepths y = withTasks(4, 4, 0);
        y.apart(0, 1, true);
        due.is("a task without room", y.shared(), 4);
        due.is("needs a group of its own", y.group(2), 1);
        StackDepths z = withTasks(0, 0);
        z.apart(0, 1, true);
        due.is("no room at all", z.shared(), 0);
        due.is("the least groups", z.group(1), 0);
        StackDepths w = withTasks(5, 3, 5, 3);
        w.apart(0, 1, true);
        w.apart(2, 3, true);
        w.apart(0, 3, true);
        w.apart(1, 2, true);
        due.is("two ways of pairs", w.shared(), 10);
        due.is("1 goes by 0", w.group(1), 0);
        due.is("3 goes by 2", w.group(3), 1);
    }

    private static void sharedEndless() {
        StackDepths x = Due.with(1, 2);
        x.call(1, 1, false, false);
        x.task(0, 0, 0);
        due.is("no task is", x.shared(), 1);
        x.task(1, 0, 0);
        due.is("one is", x.shared(), ENDLESS);
        due.is("group of the other", x.group(0), ENDLESS);
        due.is("bad before endless", x.group(2), BAD);
        x.turns(1, 2);
        due.is("turns told", x.shared(), 5);
        x.interrupt(7, 1, 1);
        x.turns(1, 0);
        due.is("an interrupt is", x.shared(), ENDLESS);
    }

    private static void saves() {
        StackDepths x = Due.with(10, 20, 25, 7);
        x.call(0, 1, false, false);
        x.call(0, 2, false, false);
        x.task(0, 0, 50);
        due.is("its own", x.saves(0, 0), 10);
        due.is("the deeper one: until the other is", x.saves(0, 2), 5);
        due.is("the other one", x.saves(0, 1), 0);
        x.interrupt(1, 2, 3);
        due.is("in the interrupt too", x.saves(0, 2), 30);
        x.call(2, 2, false, false);
        due.is("endless", x.saves(0, 3), ENDLESS);
        x.turns(2, 4);
        due.is("turns are saved", x.saves(0, 2), 80 + 100);
        due.is("frames are as they were", x.depth(0), 110);
        due.is("and told so", x.about(2, 0), 25);
        due.is("no routine", x.saves(0, 4), BAD);
        due.is("no routine below", x.saves(0, -1), BAD);
        due.is("no task", x.saves(1, 0), BAD);
        due.is("no task below", x.saves(-1, 0), BAD);
        x.turns(2, 0);
        due.is("bad before endless", x.saves(0, 4), BAD);
    }

    private static void best() {
        StackDepths x = Due.with(10, 10, 30, 30);
        x.task(0, 0, 0);
        due.is("itself", x.best(0), 0);
        x.call(0, 1, false, false);
        due.is("the least of equal ones", x.best(0), 0);
        x.frame(1, 11);
        due.is("the one that saves more", x.best(0), 1);
        x.call(0, 2, false, false);
        x.call(0, 3, false, false);
        due.is("two as deep: neither saves", x.best(0), 0);
        x.frame(0, 0);
        due.is("no one saves", x.best(0), NONE);
        x.interrupt(1, 3, 0);
        due.is("one saves in an interrupt", x.best(0), 3);
        x.call(1, 1, false, false);
        due.is("endless", x.best(0), ENDLESS);
        due.is("no task", x.best(1), BAD);
        due.is("no task below", x.best(-1), BAD);
        StackDepths y = Due.with(0);
        y.task(0, 7, 100);
        due.is("a guard is not saved", y.best(0), NONE);
    }
}
