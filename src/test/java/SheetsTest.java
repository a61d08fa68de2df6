/** Promises 27 to 30: sheets, what is scanned of them, and counts. */
public final class SheetsTest {
    private static final int BAD = -1, STATE = -2, FULL = -3, NONE = -4;
    private static final int NULL = -11, INDEX = -12, CAST = -13, SIZE = -14;
    private static final int MIN = Integer.MIN_VALUE, MAX = Integer.MAX_VALUE;
    private static final Due due = new Due("SheetsTest");

    public static void main(String[] args) {
        sheet();
        lay();
        lowestBits();
        scan();
        scanKinds();
        scanFaults();
        scanRefused();
        scanFull();
        scanUndoes();
        count();
        due.end();
    }

    private static void sheet() {
        StackDepths x = new StackDepths();
        due.is("no sheet", x.sheet(4, 0, 0), BAD);
        due.is("no sheet below", x.sheet(-1, 0, 0), BAD);
        due.is("no lane", x.sheet(0, 3, 0), BAD);
        due.is("no lane below", x.sheet(0, -1, 0), BAD);
        due.is("too many", x.sheet(0, 0, 61), BAD);
        due.is("too many by far", x.sheet(0, 0, MAX), BAD);
        due.is("size", x.sheet(0, 0, -1), SIZE);
        due.is("size by far", x.sheet(0, 0, MIN), SIZE);
        due.is("bad before size", x.sheet(0, 3, -1), BAD);
        due.is("bad sheet before size", x.sheet(4, 0, -1), BAD);
        due.is("still nothing", x.count(5), NONE);
        due.is("without cells", x.sheet(0, 0, 0), 1);
        due.is("is something", x.count(5), 0);
        due.is("sixty", x.sheet(0, 2, 60), 1);
        due.is("they are there", x.count(5), 60);
        due.is("refused", x.sheet(0, 2, -1), SIZE);
        due.is("stays", x.count(5), 60);
        due.is("another one", x.sheet(3, 1, 5), 1);
        due.is("is not sheet 0", x.count(5), 60);
    }

    private static void lay() {
        StackDepths x = new StackDepths();
        due.is("no sheet", x.lay(4, 0, 0), BAD);
        due.is("no sheet below", x.lay(-1, 0, 0), BAD);
        due.is("nothing", x.lay(1, -1, 0), NULL);
        x.sheet(1, 0, 0);
        due.is("no cells", x.lay(1, 0, 0), INDEX);
        x.sheet(1, 0, 60);
        due.is("the last", x.lay(1, 59, 1), 1);
        due.is("behind it", x.lay(1, 60, 1), INDEX);
        due.is("below", x.lay(1, -1, 1), INDEX);
        due.is("far below", x.lay(1, MIN, 1), INDEX);
        due.is("far behind", x.lay(1, MAX, 1), INDEX);
        x.sheet(1, 0, 6);
        due.is("cells of an older row", x.lay(1, 6, 1), INDEX);
    }

    private static void lowestBits() {
        int[] over = {256, 65536, 0};
        for (int lane = 0; lane < 3; lane++) {
            StackDepths x = Due.with(1, 1, 1);
            x.sheet(0, lane, 3);
            x.lay(0, 0, over[lane] + 2);
            x.lay(0, 1, -over[lane] + 1);
            x.lay(0, 2, over[lane]);
            due.is("lane " + lane + " keeps its lowest bits", x.scan(0, lane, 0, 1), 1);
            due.is("the call is there", x.cut(2, 1, false, false), 0);
        }
        StackDepths y = Due.with(1);
        y.sheet(0, 2, 3);
        y.lay(0, 0, 65536);
        due.is("ints keep all", y.scan(0, 2, 0, 1), -21);
        y.sheet(0, 1, 3);
        y.lay(0, 0, 256);
        due.is("shorts keep sixteen", y.scan(0, 1, 0, 1), -21);
        y.lay(0, 0, 65536 + 32768);
        due.is("the highest of them", y.scan(0, 1, 0, 1), -21);
        y.sheet(0, 0, 3);
        y.lay(0, 0, 128);
        due.is("bytes keep eight", y.scan(0, 0, 0, 1), -21);
    }

    private static void fill(StackDepths x, int k, int lane, int... cells) {
        x.sheet(k, lane, cells.length);
        for (int i = 0; i < cells.length; i++) {
            x.lay(k, i, cells[i]);
        }
    }

    private static void scan() {
        StackDepths x = Due.with(1, 2);
        fill(x, 2, 1, 9, 0, 1, 0, 1, 0, 1, 9);
        due.is("no ring yet", x.depth(0), 1);
        due.is("from cell 1 on", x.scan(2, 1, 1, 2), 2);
        due.is("the first is there", x.call(0, 1, false, false), STATE);
        due.is("the second is a tail", x.call(1, 0, false, true), STATE);
        due.is("a ring", x.depth(0), -5);
        due.is("no calls", x.scan(2, 1, 0, 0), 2);
        due.is("no calls, from anywhere", x.scan(2, 1, MIN, 0), 2);
        x.sheet(2, 1, 8);
        due.is("a new row is 0", x.scan(2, 1, 0, 1), 3);
        due.is("itself", x.cut(0, 0, false, false), 2);
        due.is("no sheet", x.scan(4, 1, 0, 1), BAD);
        due.is("no sheet below", x.scan(-1, 1, 0, 1), BAD);
        due.is("no lane", x.scan(2, 3, 0, 1), BAD);
        due.is("no lane below", x.scan(2, -1, 0, 1), BAD);
        due.is("n below", x.scan(2, 1, 0, -1), BAD);
        due.is("n above", x.scan(2, 1, 0, 21), BAD);
        due.is("bad before null", x.scan(3, 1, 0, 21), BAD);
    }

    private static void scanKinds() {
        StackDepths x = Due.with(1, 2);
        fill(x, 0, 0, 0, 1, 0, 0, 1, 1, 0, 1, 2, 0, 1, 3);
        due.is("all kinds", x.scan(0, 0, 0, 4), 4);
        due.is("to a routine", x.cut(0, 1, false, false), 3);
        due.is("a tail", x.cut(0, 1, false, true), 2);
        due.is("by a pointer", x.cut(0, 1, true, false), 1);
        due.is("by a pointer, a tail", x.cut(0, 1, true, true), 0);
        fill(x, 0, 2, 0, 7, 2, 0, 7, 3);
        due.is("pointer 7", x.scan(0, 2, 0, 2), 2);
    }

    private static void scanFaults() {
        StackDepths x = Due.with(1, 2);
        due.is("nothing", x.scan(0, 0, 0, 1), NULL);
        due.is("nothing, no calls", x.scan(0, 2, 0, 0), NULL);
        fill(x, 0, 1, 0, 0, 0, 1, 1, 0);
        due.is("another lane", x.scan(0, 0, -1, 1), CAST);
        due.is("another lane, no calls", x.scan(0, 2, 0, 0), CAST);
        due.is("below", x.scan(0, 1, -1, 1), INDEX);
        due.is("far below", x.scan(0, 1, MIN, 20), INDEX);
        due.is("behind", x.scan(0, 1, 4, 1), INDEX);
        due.is("far behind", x.scan(0, 1, MAX, 20), INDEX);
        due.is("the third call", x.scan(0, 1, 0, 3), INDEX);
        due.is("then none came", x.count(1), 0);
        due.is("just within", x.scan(0, 1, 3, 1), 1);
        due.is("refused before the next call's index", x.scan(0, 1, 0, 3), -22);
        due.is("the first did not stay", x.count(1), 1);
    }

    private static void scanRefused() {
        StackDepths x = Due.with(1, 2);
        fill(x, 0, 2, 0, 0, 0, 0, 0, 4);
        due.is("the third above", x.scan(0, 2, 0, 2), -21);
        x.lay(0, 5, -1);
        due.is("the third below", x.scan(0, 2, 0, 2), -21);
        x.lay(0, 5, MIN);
        due.is("the third far below", x.scan(0, 2, 0, 2), -21);
        x.lay(0, 5, 2);
        x.lay(0, 4, 8);
        due.is("no pointer", x.scan(0, 2, 0, 2), -21);
        x.lay(0, 5, 1);
        x.lay(0, 4, 2);
        due.is("no routine", x.scan(0, 2, 0, 2), -21);
        x.lay(0, 4, 0);
        x.lay(0, 3, -1);
        due.is("no caller", x.scan(0, 2, 0, 2), -21);
        x.lay(0, 3, 0);
        x.lay(0, 5, 0);
        due.is("twice on one sheet", x.scan(0, 2, 0, 2), -22);
        due.is("none came", x.count(1), 0);
        due.is("nothing is reached", x.about(0, 4), 0);
        due.is("one alone", x.scan(0, 2, 0, 1), 1);
    }

    private static void scanFull() {
        StackDepths x = new StackDepths();
        for (int r = 0; r < 20; r++) {
            x.routine(1);
        }
        x.sheet(1, 0, 60);
        for (int round = 0; round < 3; round++) {
            for (int j = 0; j < 20; j++) {
                x.lay(1, 3 * j, j);
                x.lay(1, 3 * j + 1, round);
            }
            due.is("twenty at once", x.scan(1, 0, 0, 20), 20 * round + 20);
        }
        x.cut(5, 0, false, false);
        fill(x, 1, 0, 5, 7, 0, 5, 8, 0, 5, 8, 4);
        due.is("full", x.scan(1, 0, 0, 2), -23);
        due.is("none came", x.count(1), 59);
        due.is("there before full", x.scan(1, 0, 0, 1), 60);
        due.is("there", x.scan(1, 0, 0, 1), -22);
        due.is("full at once", x.scan(1, 0, 3, 1), -23);
        due.is("bad before full", x.scan(1, 0, 6, 1), -21);
    }

    private static void scanUndoes() {
        StackDepths x = Due.with(3, 4);
        x.call(0, 1, false, false);
        due.is("depth", x.depth(0), 7);
        fill(x, 0, 0, 1, 0, 0, 1, 1, 2, 0, 1, 0);
        due.is("the third is there", x.scan(0, 0, 0, 3), -22);
        due.is("the first went again", x.cut(1, 0, false, false), STATE);
        due.is("the second went again", x.cut(1, 1, true, false), STATE);
        due.is("the one before stays", x.depth(0), 7);
        due.is("no ring", x.count(4), 0);
    }

    private static void count() {
        StackDepths x = Due.with(3, 4, 5);
        x.call(0, 1, false, false);
        x.call(2, 3, true, false);
        x.interrupt(1, 0, 0);
        x.interrupt(1, 0, 0);
        x.task(0, 0, 0);
        due.is("routines", x.count(0), 3);
        due.is("calls", x.count(1), 2);
        due.is("interrupts", x.count(2), 2);
        due.is("tasks", x.count(3), 1);
        due.is("rings", x.count(4), 0);
        x.take(3, 2);
        due.is("a ring by a pointer", x.count(4), 1);
        x.call(1, 0, false, true);
        due.is("a ring of two", x.count(4), 2);
        x.call(1, 2, false, true);
        x.call(2, 0, false, true);
        due.is("one ring of all", x.count(4), 1);
        due.is("cells", x.count(5), NONE);
        due.is("above", x.count(6), BAD);
        due.is("below", x.count(-1), BAD);
        due.is("full is a constant", StackDepths.FULL, FULL);
    }
}
