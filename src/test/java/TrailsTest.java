/** Promises 22 to 26: runs and their marks. */
public final class TrailsTest {
    private static final int BAD = -1, STATE = -2, FULL = -3, NONE = -4;
    private static final Due due = new Due("TrailsTest");

    public static void main(String[] args) {
        run();
        enter();
        enterFull();
        over();
        turnsOver();
        leave();
        ran();
        ranWithinDepth();
        stepsByPointers();
        due.end();
    }

    private static void run() {
        StackDepths x = Due.with(5, 8);
        due.is("no routine", x.run(2), BAD);
        due.is("no routine below", x.run(-1), BAD);
        due.is("a refused run is none", x.ran(0), STATE);
        due.is("its frame", x.run(0), 5);
        x.enter(1);
        x.over(0);
        due.is("refused", x.run(2), BAD);
        due.is("the run goes on", x.ran(2), 2);
        due.is("another one", x.run(1), 8);
        due.is("one routine", x.ran(2), 1);
        due.is("the most begins anew", x.ran(1), 8);
        due.is("strange begins anew", x.ran(3), 0);
        x.turns(1, 1);
        x.enter(1);
        due.is("once over", x.ran(4), 1);
        x.frame(0, 0);
        x.run(0);
        due.is("over begins anew", x.ran(4), 0);
        due.is("the most is nothing", x.ran(1), 0);
    }

    private static void enter() {
        StackDepths x = Due.with(5, 8, 1);
        due.is("no run", x.enter(0), STATE);
        due.is("bad before state", x.enter(3), BAD);
        x.call(0, 1, false, false);
        x.call(0, 2, false, true);
        x.run(0);
        due.is("above", x.enter(1), 13);
        due.is("called", x.ran(3), 0);
        due.is("no such call", x.enter(0), 18);
        due.is("strange", x.ran(3), 1);
        due.is("a tail is no call to enter by", x.enter(2), 19);
        due.is("strange too", x.ran(3), 2);
        x.frame(2, 100);
        x.frame(0, 50);
        due.is("frames count as they were", x.ran(0), 19);
        due.is("frames count as they are when one comes", x.enter(0), 69);
        due.is("no routine", x.enter(3), BAD);
        due.is("refused is no step", x.ran(3), 3);
    }

    private static void enterFull() {
        StackDepths x = Due.with(1, 2);
        x.turns(0, 1);
        x.run(0);
        for (int i = 2; i <= 40; i++) {
            due.is("above one another", x.enter(0), i);
        }
        due.is("forty are there", x.enter(0), FULL);
        due.is("bad before full", x.enter(2), BAD);
        due.is("refused is no strange step", x.ran(3), 39);
        due.is("refused is not over", x.ran(4), 39);
        due.is("to go over is never full", x.over(1), 41);
        due.is("still forty", x.ran(2), 40);
        due.is("one leaves", x.leave(), 39);
        due.is("one comes", x.enter(1), 41);
    }

    private static void over() {
        StackDepths x = Due.with(5, 8, 1);
        due.is("no run", x.over(0), STATE);
        due.is("bad before state", x.over(3), BAD);
        x.call(0, 1, false, true);
        x.call(1, 2, false, false);
        x.run(0);
        due.is("in its place", x.over(1), 8);
        due.is("called", x.ran(3), 0);
        due.is("its frame goes first", x.ran(1), 8);
        due.is("no tail", x.over(2), 1);
        due.is("strange", x.ran(3), 1);
        due.is("one is there", x.ran(2), 1);
        due.is("on top", x.ran(5), 2);
        x.frame(2, 90);
        due.is("what goes is what it had when it came", x.over(0), 5);
        due.is("no routine", x.over(3), BAD);
        x.leave();
        due.is("the run ended", x.over(0), STATE);
    }

    private static void turnsOver() {
        StackDepths x = Due.with(1, 1);
        x.call(0, 0, false, false);
        x.call(0, 0, false, true);
        x.turns(0, 2);
        x.run(0);
        x.enter(0);
        due.is("as often as told", x.ran(4), 0);
        x.over(0);
        due.is("in its own place it is no more often there", x.ran(4), 0);
        x.enter(0);
        due.is("more often", x.ran(4), 1);
        x.over(0);
        due.is("each such step counts", x.ran(4), 2);
        x.over(1);
        due.is("another one", x.ran(4), 2);
        x.enter(1);
        due.is("turns that are not told", x.ran(4), 2);
        x.turns(0, 0);
        x.enter(0);
        due.is("told away", x.ran(4), 2);
        due.is("none of that was depth", x.ran(0), 5);
    }

    private static void leave() {
        StackDepths x = Due.with(0, 8, 1);
        due.is("no run", x.leave(), STATE);
        due.is("no frame", x.run(0), 0);
        x.enter(1);
        x.frame(1, 3);
        due.is("what it had", x.leave(), 0);
        due.is("one without a frame is there yet", x.ran(2), 1);
        due.is("so the run goes on", x.enter(2), 1);
        due.is("deep 0 again", x.leave(), 0);
        due.is("the last", x.leave(), 0);
        due.is("ended", x.leave(), STATE);
        due.is("nothing to enter upon", x.enter(0), STATE);
        due.is("nothing to go over", x.over(0), STATE);
    }

    private static void ran() {
        StackDepths x = Due.with(5, 8);
        due.is("none", x.ran(6), STATE);
        due.is("bad before state", x.ran(7), BAD);
        due.is("below", x.ran(-1), BAD);
        x.run(0);
        x.enter(1);
        x.leave();
        due.is("deep", x.ran(0), 5);
        due.is("most", x.ran(1), 13);
        due.is("routines", x.ran(2), 1);
        due.is("strange", x.ran(3), 1);
        due.is("over", x.ran(4), 0);
        due.is("on top", x.ran(5), 0);
        due.is("deeper than depth", x.ran(6), 0);
        due.is("above", x.ran(7), BAD);
        x.leave();
        due.is("the latest run: deep", x.ran(0), 0);
        due.is("the latest run: most", x.ran(1), 13);
        due.is("the latest run: routines", x.ran(2), 0);
        due.is("the latest run: strange", x.ran(3), 1);
        due.is("the latest run: top", x.ran(5), NONE);
        due.is("the latest run: depth", x.ran(6), 0);
    }

    private static void ranWithinDepth() {
        StackDepths x = Due.with(5, 8, 100);
        x.run(0);
        due.is("just as deep", x.ran(6), 1);
        x.enter(1);
        due.is("deeper", x.ran(6), 0);
        x.call(0, 1, false, false);
        due.is("depth as it is now", x.ran(6), 1);
        x.call(2, 2, false, false);
        x.call(0, 2, false, true);
        x.enter(2);
        due.is("endless", x.ran(6), 1);
        x.turns(2, 1);
        due.is("no longer: 113 and 105", x.ran(6), 0);
        StackDepths y = Due.with(5, 8);
        y.run(0);
        y.over(1);
        due.is("the first is not the one on the ground", y.ran(6), 0);
    }

    private static void stepsByPointers() {
        StackDepths x = Due.with(1, 1);
        x.call(0, 6, true, false);
        x.call(1, 7, true, true);
        x.take(7, 0);
        x.run(0);
        x.enter(1);
        due.is("not yet a goal", x.ran(3), 1);
        x.leave();
        x.flow(6, 7);
        x.take(7, 1);
        x.enter(1);
        due.is("a goal that flowed", x.ran(3), 1);
        x.over(0);
        due.is("a tail by a pointer", x.ran(3), 1);
        x.over(0);
        due.is("no tail", x.ran(3), 2);
        x.cut(0, 6, true, false);
        x.enter(1);
        due.is("a call that was cut", x.ran(3), 3);
    }
}
