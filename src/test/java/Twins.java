import java.util.ArrayList;
import java.util.Arrays;
import java.util.List;

/**
 * Shows that a call has changed nothing: two objects are brought into the same state, one of them is
 * asked the call as well, and then all that can be looked at is looked at on both. A look may change
 * its object, and an object bears 512 calls, so each look gets a pair of its own.
 */
final class Twins {
    /** Calls that bring a new object into a state. */
    interface State {
        void on(StackDepths x);

        default State and(State more) {
            return x -> {
                on(x);
                more.on(x);
            };
        }
    }

    interface Call {
        int on(StackDepths x);
    }

    private interface Look {
        void at(StackDepths x, Answers answers);
    }

    private static final class Answers {
        private final List<Integer> all = new ArrayList<>();

        /** Hands the answer on, for looks that go by it. */
        int add(int answer) {
            all.add(answer);
            return answer;
        }
    }

    private record Named(String name, Look look) {}

    private static final int ROUTINES = 20, POINTERS = 8, TASKS = 6, SHEETS = 4, CELLS = 60, STANDING = 40;
    private static final List<Named> ALWAYS = always();

    private Twins() {}

    static StackDepths made(State state) {
        StackDepths x = new StackDepths();
        state.on(x);
        return x;
    }

    /** What differs after the calls, or null. */
    static String difference(State state, Call... calls) {
        List<Named> looks = new ArrayList<>(ALWAYS);
        addCells(looks, made(state));
        for (Named named : looks) {
            Answers without = new Answers(), with = new Answers();
            named.look.at(made(state), without);
            StackDepths asked = made(state);
            for (Call call : calls) call.on(asked);
            named.look.at(asked, with);
            if (!with.all.equals(without.all)) {
                return named.name + " answered " + with.all + " in place of " + without.all;
            }
        }
        return null;
    }

    private static List<Named> always() {
        List<Named> looks = new ArrayList<>();
        looks.add(new Named("counts, goals, shared", Twins::counts));
        looks.add(new Named("about", Twins::about));
        looks.add(new Named("depths, ways, endless", Twins::depths));
        looks.add(new Named("totals, groups, best, apart", Twins::tasks));
        looks.add(new Named("saves", Twins::saves));
        looks.add(new Named("take", Twins::takes));
        looks.add(new Named("flow", Twins::flows));
        looks.add(new Named("interrupts by frames", Twins::interrupts));
        looks.add(new Named("ran, leave", Twins::run));
        looks.add(new Named("the run's first routine", Twins::firstOfRun));
        looks.add(new Named("enter", Twins::enters));
        looks.add(new Named("what can still come", Twins::comings));
        looks.add(new Named("lanes and lengths of sheets", Twins::sheets));
        for (int a = 0; a < ROUTINES; a++) {
            int caller = a;
            looks.add(new Named("cut of " + a, (x, answers) -> calls(x, caller, answers)));
        }
        return looks;
    }

    private static void counts(StackDepths x, Answers answers) {
        for (int what = 0; what < 6; what++) answers.add(x.count(what));
        for (int p = 0; p < POINTERS; p++) answers.add(x.goals(p));
        answers.add(x.shared());
    }

    private static void about(StackDepths x, Answers answers) {
        for (int r = 0; r < ROUTINES; r++) {
            for (int what = 0; what < 6; what++) answers.add(x.about(r, what));
        }
    }

    private static void depths(StackDepths x, Answers answers) {
        for (int r = 0; r < ROUTINES; r++) {
            answers.add(x.depth(r));
            answers.add(x.endless(r));
            for (int i = 0; i < 5; i++) answers.add(x.way(r, i));
        }
    }

    private static void tasks(StackDepths x, Answers answers) {
        for (int t = 0; t < TASKS; t++) {
            for (int what = 0; what < 4; what++) answers.add(x.total(t, what));
            answers.add(x.group(t));
            answers.add(x.best(t));
        }
        for (int t = 0; t < TASKS; t++) {
            for (int u = t + 1; u < TASKS; u++) answers.add(x.apart(t, u, false));
        }
        answers.add(x.shared());
    }

    private static void saves(StackDepths x, Answers answers) {
        for (int t = 0; t < TASKS; t++) {
            for (int r = 0; r < ROUTINES; r++) answers.add(x.saves(t, r));
        }
    }

    private static void takes(StackDepths x, Answers answers) {
        for (int p = 0; p < POINTERS; p++) {
            for (int r = 0; r < ROUTINES; r++) answers.add(x.take(p, r));
        }
    }

    private static void flows(StackDepths x, Answers answers) {
        for (int p = 0; p < POINTERS; p++) {
            for (int q = 0; q < POINTERS; q++) answers.add(x.flow(p, q));
        }
    }

    /** An interrupt that is not the greatest of its rank is seen once its routine has a great frame. */
    private static void interrupts(StackDepths x, Answers answers) {
        for (int rank = 0; rank < TASKS; rank++) answers.add(x.task(0, rank, 0));
        for (int r = 0; r < ROUTINES; r++) {
            int was = answers.add(x.frame(r, 500));
            for (int t = 0; t < TASKS; t++) answers.add(x.total(t, 1));
            answers.add(x.frame(r, was));
        }
    }

    private static void run(StackDepths x, Answers answers) {
        for (int what = 0; what < 7; what++) answers.add(x.ran(what));
        for (int i = 0; i <= STANDING; i++) {
            answers.add(x.leave());
            answers.add(x.ran(2));
            answers.add(x.ran(5));
        }
    }

    private static void firstOfRun(StackDepths x, Answers answers) {
        for (int r = 0; r < ROUTINES; r++) answers.add(x.frame(r, 0));
        for (int r = 0; r < ROUTINES; r++) {
            answers.add(x.frame(r, 500));
            answers.add(x.ran(6));
            answers.add(x.frame(r, 0));
        }
    }

    /** Steps tell by their marks what stands on top and how often each one stands there. */
    private static void enters(StackDepths x, Answers answers) {
        for (int r = 0; r < ROUTINES; r++) {
            answers.add(x.enter(r));
            answers.add(x.ran(3));
            answers.add(x.ran(4));
            answers.add(x.over(r));
            answers.add(x.ran(3));
            answers.add(x.leave());
        }
    }

    private static void comings(StackDepths x, Answers answers) {
        for (int i = 0; i < 9; i++) answers.add(x.interrupt(1, 0, 0));
        for (int i = 0; i < 7; i++) answers.add(x.task(0, 0, 0));
        for (int i = 0; i < 21; i++) answers.add(x.routine(0));
        for (int i = 0; i < 61; i++) answers.add(x.call(i % ROUTINES, i / ROUTINES, true, true));
    }

    private static void sheets(StackDepths x, Answers answers) {
        for (int k = 0; k < SHEETS; k++) {
            for (int lane = 0; lane < 3; lane++) answers.add(x.scan(k, lane, 0, 0));
            for (int i = 0; i <= CELLS; i++) answers.add(x.lay(k, i, 0));
        }
    }

    private static void calls(StackDepths x, int a, Answers answers) {
        for (int b = 0; b < ROUTINES; b++) {
            answers.add(x.cut(a, b, false, false));
            answers.add(x.cut(a, b, false, true));
            answers.add(x.cut(a, b, true, false));
            answers.add(x.cut(a, b, true, true));
        }
    }

    /** Looks at the cells that there are, each as the a, the b and the third of a call. */
    private static void addCells(List<Named> looks, StackDepths x) {
        for (int k = 0; k < SHEETS; k++) {
            int lane = laneOf(x, k), length = 0;
            while (lane >= 0 && length < CELLS && x.lay(k, length, 0) == 1) length++;
            for (int i = 0; i < length; i++) {
                for (int part = 0; part < 3; part++) addCell(looks, new int[] {k, lane, i, part}, length);
            }
        }
    }

    private static int laneOf(StackDepths x, int k) {
        for (int lane = 0; lane < 3; lane++) {
            if (x.scan(k, lane, 0, 0) >= 0) return lane;
        }
        return -1;
    }

    private static void addCell(List<Named> looks, int[] cell, int length) {
        int k = cell[0], lane = cell[1], i = cell[2], part = cell[3], from = i - part;
        if (from < 0 || from + 3 > length) return;
        looks.add(new Named("cell " + i + " of sheet " + k, (x, answers) -> {
            for (int a = 0; a < ROUTINES; a++) {
                x.cut(a, 0, false, false);
                x.cut(0, a, false, false);
            }
            for (int j = from; j < from + 3; j++) {
                if (j != i) x.lay(k, j, 0);
            }
            answers.add(x.scan(k, lane, from, 1));
            for (int v = 0; v < ROUTINES; v++) {
                answers.add(x.cut(part == 0 ? v : 0, part == 1 ? v : 0, part == 2 && v >= 2, part == 2 && v % 2 == 1));
            }
        }));
    }

    /** Something of everything, so that a change would be seen wherever it were; no rings. */
    static void rich(StackDepths x) {
        for (int frame : new int[] {10, 20, 30, 40, 50, 0}) x.routine(frame);
        x.turns(1, 2);
        x.turns(3, 20);
        x.call(0, 1, false, false);
        x.call(1, 2, false, true);
        x.call(2, 1, false, true);
        x.call(0, 3, true, false);
        x.call(4, 5, true, true);
        x.take(3, 4);
        x.take(2, 5);
        x.flow(3, 2);
        x.interrupt(3, 2, 7);
        x.interrupt(5, 5, 1);
        x.task(0, 1, 9);
        x.task(4, 4, 0);
        x.task(3, 0, 100);
        x.apart(0, 1, true);
        x.run(0);
        x.enter(1);
        x.over(2);
        x.enter(1);
        x.enter(1);
        x.enter(1);
        x.frame(1, 21);
        lay(x, 0, 0, 5, 4, 0, 4, 1, 1, 3, 7, 2, 9);
        lay(x, 1, 1, 0, 5, 3);
        lay(x, 2, 2, 2, 3, 1, 0);
    }

    /** Routine 5, which all but 1, 2 and 3 reach, and every interrupt of rank 5, are endless. */
    static void richAndEndless(StackDepths x) {
        rich(x);
        x.take(5, 5);
        x.call(5, 5, false, false);
    }

    static void lay(StackDepths x, int k, int lane, int... cells) {
        x.sheet(k, lane, cells.length);
        for (int i = 0; i < cells.length; i++) x.lay(k, i, cells[i]);
    }

    /** Twenty routines and all sixty calls: tails from each to 0, 1 and 2. */
    static void sixtyCalls(StackDepths x) {
        for (int r = 0; r < ROUTINES; r++) x.routine(r);
        for (int i = 0; i < 60; i++) x.call(i % ROUTINES, i / ROUTINES, false, true);
    }

    static int[] notWithin(int low, int high) {
        int[] all = {
            low - 1, high + 1, low - 256, high + 32, high + 64, high + 256, high + 65536,
            Integer.MIN_VALUE, Integer.MIN_VALUE + 1, Integer.MAX_VALUE - 1, Integer.MAX_VALUE,
        };
        return Arrays.stream(all).filter(v -> v < low || v > high).toArray();
    }
}
