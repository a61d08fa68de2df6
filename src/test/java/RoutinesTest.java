/** Promises 1 to 10: a new object, routines, calls, pointers, and what is told about them. */
public final class RoutinesTest {
    private static final int BAD = -1, STATE = -2, FULL = -3, NONE = -4;
    private static final int MIN = Integer.MIN_VALUE, MAX = Integer.MAX_VALUE;
    private static final Due due = new Due("RoutinesTest");

    public static void main(String[] args) {
        newObject();
        routine();
        frame();
        turns();
        call();
        callsAreFull();
        cut();
        take();
        flow();
        goals();
        about();
        aboutRings();
        aboutPointers();
        due.end();
    }

    private static void newObject() {
        StackDepths x = new StackDepths();
        for (int what = 0; what <= 4; what++) {
            due.is("count of a new object", x.count(what), 0);
        }
        due.is("no sheet", x.count(5), NONE);
        for (int p = 0; p < 8; p++) {
            due.is("goals of a new object", x.goals(p), 0);
        }
        due.is("no run", x.ran(0), STATE);
        due.is("nothing leaves", x.leave(), STATE);
        due.is("nothing shared", x.shared(), 0);
        for (int k = 0; k < 4; k++) {
            due.is("sheets have nothing", x.lay(k, 0, 0), -11);
        }
        due.is("two objects are two", Due.with(5).count(0) + x.count(0), 1);
    }

    private static void routine() {
        StackDepths x = new StackDepths();
        due.is("frame below", x.routine(-1), BAD);
        due.is("frame above", x.routine(501), BAD);
        due.is("refused ones do not count", x.count(0), 0);
        for (int r = 0; r < 20; r++) {
            due.is("numbered as they come", x.routine(r == 0 ? 0 : 500), r);
        }
        due.is("twenty are full", x.routine(1), FULL);
        due.is("bad before full", x.routine(MAX), BAD);
        due.is("still twenty", x.count(0), 20);
        due.is("the first frame", x.about(0, 0), 0);
        due.is("the last frame", x.about(19, 0), 500);
        due.is("turns are not told at first", x.about(19, 1), 0);
    }

    private static void frame() {
        StackDepths x = Due.with(7, 9);
        due.is("was", x.frame(1, 500), 9);
        due.is("was then", x.frame(1, 0), 500);
        due.is("above", x.frame(1, 501), BAD);
        due.is("below", x.frame(1, -1), BAD);
        due.is("no routine", x.frame(2, 1), BAD);
        due.is("no routine below", x.frame(-1, 1), BAD);
        due.is("refused changes nothing", x.about(1, 0), 0);
        due.is("the other stays", x.about(0, 0), 7);
    }

    private static void turns() {
        StackDepths x = Due.with(7, 9);
        due.is("not told", x.turns(1, 20), 0);
        due.is("was", x.turns(1, 1), 20);
        due.is("above", x.turns(1, 21), BAD);
        due.is("below", x.turns(1, -1), BAD);
        due.is("no routine", x.turns(2, 1), BAD);
        due.is("refused changes nothing", x.about(1, 1), 1);
        due.is("told away", x.turns(1, 0), 1);
        due.is("not told again", x.about(1, 1), 0);
    }

    private static void call() {
        StackDepths x = Due.with(1, 2, 3);
        due.is("one", x.call(0, 1, false, false), 1);
        due.is("a tail is another", x.call(0, 1, false, true), 2);
        due.is("by a pointer is another", x.call(0, 1, true, false), 3);
        due.is("by a pointer, a tail", x.call(0, 1, true, true), 4);
        due.is("there", x.call(0, 1, false, false), STATE);
        due.is("tail there", x.call(0, 1, false, true), STATE);
        due.is("pointer there", x.call(0, 1, true, false), STATE);
        due.is("pointer tail there", x.call(0, 1, true, true), STATE);
        due.is("the other way", x.call(1, 0, false, false), 5);
        due.is("itself", x.call(2, 2, false, false), 6);
        due.is("pointer 7 without such a routine", x.call(2, 7, true, false), 7);
        due.is("no pointer", x.call(2, 8, true, false), BAD);
        due.is("no pointer below", x.call(2, -1, true, false), BAD);
        due.is("no routine", x.call(2, 3, false, false), BAD);
        due.is("no routine below", x.call(2, -1, false, false), BAD);
        due.is("no caller", x.call(3, 0, false, false), BAD);
        due.is("no caller of a pointer", x.call(MIN, 0, true, false), BAD);
        due.is("refused ones do not count", x.count(1), 7);
    }

    private static StackDepths withSixtyCalls() {
        StackDepths x = new StackDepths();
        for (int r = 0; r < 20; r++) {
            x.routine(1);
        }
        for (int i = 0; i < 60; i++) {
            x.call(i % 20, i / 20, false, true);
        }
        return x;
    }

    private static void callsAreFull() {
        StackDepths x = withSixtyCalls();
        due.is("sixty", x.count(1), 60);
        due.is("all twenty reach the first", x.about(0, 5), 20);
        due.is("the last is together with none", x.about(19, 3), 19);
        due.is("three are reached", x.about(19, 4), 3);
        due.is("full", x.call(0, 0, false, false), FULL);
        due.is("there before full", x.call(0, 0, false, true), STATE);
        due.is("bad before full", x.call(0, 20, false, true), BAD);
        due.is("one goes", x.cut(19, 2, false, true), 59);
        due.is("one comes", x.call(0, 0, true, false), 60);
        due.is("full again", x.call(0, 1, true, false), FULL);
    }

    private static void cut() {
        StackDepths x = Due.with(1, 2);
        x.call(0, 1, false, false);
        x.call(0, 1, true, false);
        due.is("not a tail", x.cut(0, 1, false, true), STATE);
        due.is("not the other way", x.cut(1, 0, false, false), STATE);
        due.is("no caller", x.cut(2, 1, false, false), BAD);
        due.is("no routine", x.cut(0, 2, false, false), BAD);
        due.is("a pointer that is not called", x.cut(0, 2, true, false), STATE);
        due.is("no pointer", x.cut(0, 8, true, false), BAD);
        due.is("refused ones stay", x.count(1), 2);
        due.is("goes", x.cut(0, 1, false, false), 1);
        due.is("is gone", x.cut(0, 1, false, false), STATE);
        due.is("reaches nothing now", x.about(0, 4), 0);
        due.is("the other goes", x.cut(0, 1, true, false), 0);
        due.is("comes again", x.call(0, 1, false, false), 1);
    }

    private static void take() {
        StackDepths x = Due.with(1, 2);
        due.is("takes", x.take(7, 1), 1);
        due.is("does so already", x.take(7, 1), STATE);
        due.is("another routine", x.take(7, 0), 1);
        due.is("still does so", x.take(7, 1), STATE);
        due.is("another pointer", x.take(0, 1), 1);
        due.is("no routine", x.take(0, 2), BAD);
        due.is("no routine below", x.take(0, -1), BAD);
        due.is("no pointer", x.take(8, 0), BAD);
        due.is("no pointer below", x.take(-1, 0), BAD);
        due.is("refused ones change nothing", x.goals(0), 2);
        x.flow(1, 0);
        due.is("a goal that flowed in can be taken", x.take(1, 1), 1);
    }

    private static void flow() {
        StackDepths x = Due.with(1);
        due.is("flows", x.flow(0, 7), 1);
        due.is("does so already", x.flow(0, 7), STATE);
        due.is("another into it", x.flow(0, 5), 1);
        due.is("still does so", x.flow(0, 7), STATE);
        x.take(7, 0);
        due.is("the goals of both", x.goals(0), 1);
        due.is("the other way", x.flow(7, 0), 1);
        due.is("one and the same", x.flow(3, 3), STATE);
        due.is("no pointer p", x.flow(8, 0), BAD);
        due.is("no pointer q", x.flow(0, 8), BAD);
        due.is("below", x.flow(-1, 0), BAD);
        due.is("bad before one and the same", x.flow(8, 8), BAD);
        x.flow(1, 0);
        due.is("what flows through another may be told", x.flow(1, 7), 1);
    }

    private static void goals() {
        StackDepths x = Due.with(1, 1, 1, 1);
        for (int p = 7; p > 0; p--) {
            x.flow(p - 1, p);
        }
        x.take(7, 3);
        due.is("through seven pointers", x.goals(0), 8);
        x.take(3, 1);
        due.is("more on the way", x.goals(0), 10);
        due.is("not against the flow", x.goals(4), 8);
        StackDepths y = Due.with(1, 1, 1, 1);
        for (int p = 0; p < 7; p++) {
            y.flow(p + 1, p);
        }
        y.take(0, 2);
        due.is("upward through seven", y.goals(7), 4);
        y.flow(0, 7);
        y.take(5, 0);
        due.is("round", y.goals(4), 5);
        StackDepths two = Due.with(1, 1, 1, 1);
        two.flow(0, 1);
        two.flow(0, 2);
        two.take(1, 1);
        two.take(2, 3);
        due.is("of two that flow in", two.goals(0), 10);
        due.is("no pointer", y.goals(8), BAD);
        due.is("no pointer below", y.goals(-1), BAD);
        StackDepths z = new StackDepths();
        for (int r = 0; r < 20; r++) {
            z.routine(0);
            z.take(2, r);
        }
        due.is("all twenty", z.goals(2), (1 << 20) - 1);
    }

    private static void about() {
        StackDepths x = Due.with(4, 5, 6, 7);
        x.turns(1, 3);
        x.call(0, 1, false, false);
        x.call(1, 2, false, true);
        due.is("frame", x.about(1, 0), 5);
        due.is("turns", x.about(1, 1), 3);
        due.is("no ring", x.about(1, 2), 0);
        due.is("alone", x.about(1, 3), 1);
        due.is("reaches", x.about(0, 4), 2);
        due.is("reaches through tails", x.about(1, 4), 1);
        due.is("does not reach itself", x.about(2, 4), 0);
        due.is("reached", x.about(2, 5), 2);
        due.is("not reached", x.about(0, 5), 0);
        due.is("what above", x.about(0, 6), BAD);
        due.is("what below", x.about(0, -1), BAD);
        due.is("no routine", x.about(4, 0), BAD);
        due.is("no routine below", x.about(-1, 0), BAD);
    }

    private static void aboutRings() {
        StackDepths x = Due.with(4, 5, 6, 7);
        x.call(3, 3, false, true);
        due.is("a tail to itself is no ring", x.about(3, 2), 0);
        due.is("it reaches itself", x.about(3, 4), 1);
        due.is("it is reached by itself", x.about(3, 5), 1);
        x.call(3, 3, false, false);
        due.is("a call to itself is", x.about(3, 2), 1);
        x.call(2, 1, false, true);
        x.call(1, 2, false, true);
        due.is("tails alone are no ring", x.about(1, 2), 0);
        due.is("but together", x.about(2, 3), 1);
        due.is("one ring", x.count(4), 1);
        x.call(0, 1, false, false);
        due.is("a call into them makes no ring", x.about(1, 2), 0);
        x.call(2, 2, false, false);
        due.is("one call among them makes all a ring", x.about(1, 2), 1);
        due.is("not the caller", x.about(0, 2), 0);
        due.is("two rings", x.count(4), 2);
    }

    private static void aboutPointers() {
        StackDepths x = Due.with(4, 5, 6);
        x.call(0, 3, true, false);
        due.is("a pointer without goals", x.about(0, 4), 0);
        x.take(4, 2);
        due.is("a goal of another pointer", x.about(0, 4), 0);
        x.flow(3, 4);
        due.is("goals that flow later", x.about(0, 4), 1);
        x.take(5, 1);
        x.call(0, 5, true, false);
        due.is("by two pointers", x.about(0, 4), 2);
        x.cut(0, 5, true, false);
        x.call(2, 4, true, true);
        due.is("a tail to itself by a pointer", x.about(2, 2), 0);
        x.take(4, 0);
        due.is("a ring by pointers", x.about(0, 2), 1);
        due.is("with the least", x.about(2, 3), 0);
        x.cut(0, 3, true, false);
        due.is("is cut", x.about(0, 2), 0);
        x.routine(1);
        due.is("a new routine is known", x.about(3, 3), 3);
    }
}
