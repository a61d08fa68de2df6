/** Promises 11 to 13: depth, way, endless. */
public final class DepthsTest {
    private static final int BAD = -1, STATE = -2, NONE = -4, ENDLESS = -5;
    private static final Due due = new Due("DepthsTest");

    public static void main(String[] args) {
        plainDepth();
        tailDepth();
        tailsTogether();
        ringDepth();
        ringBeyond();
        deepest();
        wayOfCalls();
        wayThroughTails();
        wayOfNothing();
        longWay();
        wayState();
        endless();
        due.end();
    }

    private static void plainDepth() {
        StackDepths x = Due.with(10, 20, 30, 0);
        due.is("its frame", x.depth(0), 10);
        due.is("no frame", x.depth(3), 0);
        x.call(0, 1, false, false);
        x.call(0, 2, false, false);
        due.is("the greatest", x.depth(0), 40);
        x.call(1, 2, false, false);
        due.is("on top of one another", x.depth(0), 60);
        x.frame(2, 31);
        due.is("a frame that changed", x.depth(0), 61);
        x.turns(2, 5);
        due.is("turns count in rings alone", x.depth(0), 61);
        due.is("no routine", x.depth(4), BAD);
        due.is("no routine below", x.depth(-1), BAD);
    }

    private static void tailDepth() {
        StackDepths x = Due.with(10, 20, 5);
        x.call(0, 2, false, true);
        due.is("its own frame is more", x.depth(0), 10);
        x.call(0, 1, false, true);
        due.is("the tail is more", x.depth(0), 20);
        x.call(0, 1, false, false);
        due.is("a call beside a tail", x.depth(0), 30);
        x.call(1, 2, true, true);
        due.is("a pointer without goals", x.depth(0), 30);
        x.take(2, 2);
        x.call(2, 2, false, true);
        due.is("a tail to itself", x.depth(2), 5);
    }

    private static void tailsTogether() {
        StackDepths x = Due.with(10, 40, 5, 100);
        x.call(0, 1, false, true);
        x.call(1, 2, false, true);
        x.call(2, 0, false, true);
        due.is("the greatest of them", x.depth(2), 40);
        x.call(2, 3, false, false);
        due.is("what one of them calls", x.depth(0), 105);
        x.cut(2, 3, false, false);
        x.call(1, 3, false, true);
        due.is("what one of them goes over into", x.depth(0), 100);
        x.frame(3, 39);
        due.is("its own is more", x.depth(0), 40);
    }

    private static void ringDepth() {
        StackDepths x = Due.with(10, 20);
        x.call(0, 0, false, false);
        due.is("no turns told", x.depth(0), ENDLESS);
        x.turns(0, 20);
        due.is("twenty turns", x.depth(0), 200);
        x.call(0, 1, false, true);
        x.call(1, 0, false, true);
        due.is("one of them has no turns", x.depth(0), ENDLESS);
        due.is("nor the other one", x.depth(1), ENDLESS);
        x.turns(1, 3);
        due.is("the sum of both", x.depth(1), 260);
        x.turns(0, 0);
        due.is("turns told away", x.depth(1), ENDLESS);
    }

    private static void ringBeyond() {
        StackDepths x = Due.with(10, 20, 7, 9, 1);
        x.call(0, 1, false, false);
        x.call(1, 0, false, false);
        x.turns(0, 2);
        x.turns(1, 3);
        x.call(0, 2, false, true);
        due.is("a tail out of a ring counts above it", x.depth(1), 87);
        x.call(1, 3, false, false);
        due.is("the greatest of them", x.depth(0), 89);
        x.call(4, 0, false, true);
        due.is("a tail into a ring", x.depth(4), 89);
        x.call(4, 0, false, false);
        due.is("a call into a ring", x.depth(4), 90);
        x.call(3, 3, false, false);
        due.is("a ring beyond a ring without turns", x.depth(4), ENDLESS);
        due.is("a ring beyond is endless", x.depth(1), ENDLESS);
        due.is("not what is beside", x.depth(2), 7);
        x.turns(3, 4);
        due.is("a ring beyond a ring", x.depth(4), 1 + 80 + 36);
    }

    private static void deepest() {
        StackDepths x = new StackDepths();
        for (int r = 0; r < 20; r++) {
            x.routine(500);
            x.turns(r, 20);
        }
        for (int r = 0; r < 20; r++) {
            x.call(r, (r + 1) % 20, false, r != 7);
        }
        due.is("the most that there is", x.depth(13), 200000);
        x.cut(7, 8, false, false);
        due.is("then tails alone", x.depth(8), 500);
    }

    private static void wayOfCalls() {
        StackDepths x = Due.with(10, 20, 20, 5, 35);
        x.call(0, 2, false, false);
        x.call(0, 1, false, false);
        x.call(0, 4, false, true);
        due.is("before: the tail is more", x.way(0, 1), 4);
        x.frame(4, 30);
        due.is("the least of equal ones, calls before tails", x.way(0, 1), 1);
        x.call(2, 3, false, false);
        due.is("the deeper one", x.way(0, 1), 2);
        due.is("and on", x.way(0, 2), 3);
        due.is("no more", x.way(0, 3), NONE);
        due.is("itself", x.way(0, 0), 0);
        due.is("far behind", x.way(0, Integer.MAX_VALUE), NONE);
        due.is("below", x.way(0, -1), BAD);
        due.is("no routine", x.way(5, 0), BAD);
        due.is("no routine below", x.way(-1, 0), BAD);
    }

    private static void wayThroughTails() {
        StackDepths x = Due.with(1, 2, 9, 9, 4, 5);
        x.call(0, 1, false, true);
        x.call(1, 2, false, true);
        x.call(2, 3, false, true);
        x.call(3, 0, false, true);
        due.is("the least that tells it", x.way(0, 1), 2);
        due.is("it ends there", x.way(0, 2), NONE);
        due.is("one that tells it stays", x.way(3, 1), NONE);
        x.call(3, 4, false, false);
        due.is("the one that calls", x.way(0, 1), 3);
        due.is("and what it calls", x.way(0, 2), 4);
        due.is("no more", x.way(0, 3), NONE);
        x.frame(5, 13);
        x.call(1, 5, false, true);
        due.is("one that goes over out of them tells as much", x.way(0, 1), 1);
        due.is("and goes over", x.way(0, 2), 5);
        due.is("another tells it itself", x.way(3, 1), 4);
        x.frame(0, 13);
        due.is("the least is the first of all", x.way(2, 1), 0);
    }

    private static void wayOfNothing() {
        StackDepths x = Due.with(0, 0, 3);
        x.call(0, 1, false, false);
        due.is("a call that adds nothing is on the way", x.way(0, 1), 1);
        x.call(2, 1, false, false);
        due.is("also of one with a frame", x.way(2, 1), 1);
        StackDepths y = Due.with(0, 3);
        y.call(0, 1, false, true);
        y.call(1, 1, false, true);
        due.is("a tail to itself is none", y.way(0, 2), NONE);
    }

    private static void longWay() {
        StackDepths x = new StackDepths();
        for (int r = 0; r < 20; r++) {
            x.routine(1);
        }
        for (int r = 1; r < 20; r++) {
            x.call(r, r - 1, false, false);
        }
        for (int i = 0; i < 20; i++) {
            due.is("step " + i, x.way(19, i), 19 - i);
        }
        due.is("behind twenty", x.way(19, 20), NONE);
        due.is("behind more", x.way(19, 21), NONE);
    }

    private static void wayState() {
        StackDepths x = Due.with(1, 2, 3);
        x.call(0, 1, false, false);
        x.call(1, 1, false, false);
        x.turns(1, 2);
        due.is("of a ring", x.way(1, 0), STATE);
        due.is("reaches one", x.way(0, 0), STATE);
        due.is("bad before state", x.way(0, -1), BAD);
        due.is("state before none", x.way(0, 99), STATE);
        due.is("beside", x.way(2, 0), 2);
    }

    private static void endless() {
        StackDepths x = Due.with(1, 2, 3, 4);
        due.is("no ring", x.endless(0), NONE);
        x.call(3, 2, false, false);
        x.call(2, 1, false, true);
        x.call(1, 2, false, false);
        due.is("not of itself: of no ring", x.endless(3), 1);
        due.is("the least", x.endless(2), 1);
        due.is("nothing reached", x.endless(0), NONE);
        x.turns(1, 1);
        due.is("the next", x.endless(3), 2);
        due.is("itself too", x.endless(2), 2);
        x.turns(2, 1);
        due.is("all told", x.endless(3), NONE);
        x.call(0, 0, false, false);
        due.is("the first of all", x.endless(0), 0);
        x.turns(0, 9);
        due.is("told too", x.endless(0), NONE);
        due.is("no routine", x.endless(4), BAD);
        due.is("no routine below", x.endless(-1), BAD);
    }
}
