/** The boundary cases that promises 27 to 30 name. */
final class EdgesOfSheets {
    private static final int BAD = -1, STATE = -2, NONE = -4;
    private static final int NULL = -11, INDEX = -12, CAST = -13, SIZE = -14;
    private static final int REFUSED_BAD = -21, REFUSED_STATE = -22, REFUSED_FULL = -23;
    private static final int MIN = Integer.MIN_VALUE, MAX = Integer.MAX_VALUE;
    private static final Twins.State RICH = Twins::rich, EMPTY = x -> {};

    private EdgesOfSheets() {}

    static void tell(Edges e) {
        e.edge("Promise 27", "A SHEET is a new row of CELLS 0: 1", EdgesOfSheets::sheetIsNew);
        e.edge("Promise 27", "BAD", EdgesOfSheets::sheetBad);
        e.edge("Promise 27", "BAD: also n above 60", EdgesOfSheets::sheetTooLong);
        e.edge("Promise 27", "-10 - 4", EdgesOfSheets::sheetBelowNothing);
        e.edge("Promise 28", "CELL i of a SHEET becomes v (its lowest bits): 1", EdgesOfSheets::layLowestBits);
        e.edge("Promise 28", "BAD: k", EdgesOfSheets::layBad);
        e.edge("Promise 28", "-10 less the FAULT: NULL", EdgesOfSheets::layOnNothing);
        e.edge("Promise 28", "INDEX", EdgesOfSheets::layBeyond);
        e.edge("Promise 29", "n (0 to 20) CALLS", EdgesOfSheets::scanNoneAndTwenty);
        e.edge("Promise 29", "0 (to a ROUTINE, no TAIL), 1 (a TAIL), 2, 3 (by a POINTER likewise)",
                EdgesOfSheets::scanKinds);
        e.edge("Promise 29", "from CELL f on: how many CALLS there are", EdgesOfSheets::scanFrom);
        e.edge("Promise 29", "BAD: k, lane, n", EdgesOfSheets::scanBad);
        e.edge("Promise 29", "-10 less the FAULT: NULL", EdgesOfSheets::scanNull);
        e.edge("Promise 29", "CAST", EdgesOfSheets::scanCast);
        e.edge("Promise 29", "then CALL by CALL INDEX (of its three CELLS)", EdgesOfSheets::scanIndex);
        e.edge("Promise 29", "-20 and what call() refuses", EdgesOfSheets::scanRefused);
        e.edge("Promise 29", "(the third not 0 to 3: BAD)", EdgesOfSheets::scanThird);
        e.edge("Promise 29", "the first met", EdgesOfSheets::scanFirstMet);
        e.edge("Promise 29", "then none came", EdgesOfSheets::scanNoneCame);
        e.edge("Promise 30", "0 ROUTINES, 1 CALLS, 2 INTERRUPTS, 3 TASKS, 4 RINGS", EdgesOfSheets::countNoneAndAll);
        e.edge("Promise 30", "5 CELLS of SHEET 0 (NONE: nothing)", EdgesOfSheets::countCells);
        e.edge("Promise 30", "BAD", EdgesOfSheets::countBad);
    }

    private static Twins.State sheet(int lane, int... cells) {
        return RICH.and(x -> Twins.lay(x, 3, lane, cells));
    }

    private static void sheetIsNew(Edges e) {
        StackDepths x = Due.with(1, 1);
        Twins.lay(x, 0, 0, 1, 1, 1);
        e.is("anew", x.sheet(0, 0, 3), 1);
        e.is("its cells are 0", x.scan(0, 0, 0, 1), 1);
        e.is("a call of 0 to 0", x.cut(0, 0, false, false), 0);
        Twins.lay(x, 0, 0, 1, 1, 1, 1, 1, 1);
        x.sheet(0, 0, 3);
        e.is("fewer cells", x.lay(0, 3, 0), INDEX);
        x.sheet(0, 0, 6);
        e.is("more again: 0 too", x.scan(0, 0, 3, 1), 1);
        e.is("again a call of 0 to 0", x.cut(0, 0, false, false), 0);
        x.sheet(0, 2, 3);
        e.is("another lane", x.scan(0, 2, 0, 0), 0);
        e.is("no longer the old one", x.scan(0, 0, 0, 0), CAST);
        e.is("no cells", x.sheet(0, 1, 0), 1);
        e.is("are there", x.count(5), 0);
    }

    private static void sheetBad(Edges e) {
        e.range("k", RICH, k -> x -> x.sheet(k, 0, 3), 0, 3);
        e.range("lane", RICH, lane -> x -> x.sheet(0, lane, 3), 0, 2);
        e.refused("k, before SIZE", RICH, x -> x.sheet(4, 0, -1), BAD);
        e.refused("lane, before SIZE", RICH, x -> x.sheet(0, -1, -1), BAD);
        e.refused("lane, with the least n", RICH, x -> x.sheet(0, 3, MIN), BAD);
    }

    private static void sheetTooLong(Edges e) {
        for (int lane = 0; lane < 3; lane++) {
            int of = lane;
            e.is("sixty", Twins.made(RICH).sheet(0, lane, 60), 1);
            for (int n : new int[] {61, 62, 316, 65596, MAX}) {
                e.refused(n + " in lane " + lane, RICH, x -> x.sheet(0, of, n), BAD);
                e.refused(n + " for a first row", EMPTY, x -> x.sheet(0, of, n), BAD);
            }
        }
    }

    private static void sheetBelowNothing(Edges e) {
        for (int lane = 0; lane < 3; lane++) {
            int of = lane;
            e.is("none", Twins.made(RICH).sheet(0, lane, 0), 1);
            for (int n : new int[] {-1, -2, -256, -65536, MIN + 1, MIN}) {
                e.refused(n + " in lane " + lane, RICH, x -> x.sheet(0, of, n), SIZE);
                e.refused(n + " for a first row", EMPTY, x -> x.sheet(3, of, n), SIZE);
            }
        }
    }

    private static void layLowestBits(Edges e) {
        int[][] ones = {
            {1, 257, -255, 65537, MIN + 1, MAX - 254},
            {1, 65537, -65535, MIN + 1, MAX - 65534},
            {1},
        };
        int[][] others = {
            {127, 128, 255, -1, MAX},
            {257, 32767, 32768, 65535, -255, -1, MAX},
            {257, 65537, -65535, -255, MIN + 1, -1, MIN, MAX},
        };
        for (int l = 0; l < 3; l++) {
            int lane = l;
            for (int v : ones[l]) {
                StackDepths x = Due.with(1, 1);
                Twins.lay(x, 0, lane, 0, 0, 0);
                e.is("laid " + v, x.lay(0, 0, v), 1);
                e.is(v + " in lane " + lane + " is 1", x.scan(0, lane, 0, 1), 1);
                e.is(v + " in lane " + lane + " is the caller 1", x.cut(1, 0, false, false), 0);
            }
            for (int v : others[l]) {
                e.refused(v + " in lane " + lane + " is no caller", x -> {
                    x.routine(1);
                    x.routine(1);
                    Twins.lay(x, 0, lane, v, 0, 0);
                }, x -> x.scan(0, lane, 0, 1), REFUSED_BAD);
            }
        }
        StackDepths y = new StackDepths();
        y.sheet(0, 0, 60);
        e.is("the first cell", y.lay(0, 0, MAX), 1);
        e.is("the last cell", y.lay(0, 59, MIN), 1);
    }

    private static void layBad(Edges e) {
        e.range("k", RICH, k -> x -> x.lay(k, 0, 1), 0, 3);
        e.refused("before INDEX", RICH, x -> x.lay(4, -1, 1), BAD);
        e.refused("without sheets", EMPTY, x -> x.lay(-1, 0, 1), BAD);
    }

    private static void layOnNothing(Edges e) {
        for (int i : new int[] {MIN, -1, 0, 59, 60, MAX}) {
            e.refused("cell " + i + " of nothing", RICH, x -> x.lay(3, i, 1), NULL);
        }
        for (int k = 0; k < 4; k++) {
            int of = k;
            e.refused("sheet " + k + " of a new object", EMPTY, x -> x.lay(of, 0, 1), NULL);
        }
        e.refused("after a refused sheet", x -> x.sheet(0, 0, -1), x -> x.lay(0, 0, 1), NULL);
    }

    private static void layBeyond(Edges e) {
        int[] lengths = {10, 3, 4};
        for (int k = 0; k < 3; k++) {
            int of = k;
            e.is("the last of sheet " + k, Twins.made(RICH).lay(k, lengths[k] - 1, 1), 1);
            for (int i : Twins.notWithin(0, lengths[k] - 1)) {
                e.refused("cell " + i + " of sheet " + k, RICH, x -> x.lay(of, i, 1), INDEX);
            }
        }
        e.refused("of no cells", sheet(0), x -> x.lay(3, 0, 1), INDEX);
        e.refused("of sixty", x -> x.sheet(0, 2, 60), x -> x.lay(0, 60, 1), INDEX);
    }

    private static void scanNoneAndTwenty(Edges e) {
        StackDepths x = new StackDepths();
        for (int r = 0; r < 20; r++) x.routine(0);
        x.sheet(0, 0, 60);
        e.is("none", x.scan(0, 0, 0, 0), 0);
        for (int j = 0; j < 20; j++) {
            x.lay(0, 3 * j, j);
            x.lay(0, 3 * j + 1, 19 - j);
            x.lay(0, 3 * j + 2, 1);
        }
        e.is("twenty", x.scan(0, 0, 0, 20), 20);
        e.is("none more", x.scan(0, 0, 0, 0), 20);
        for (int j = 0; j < 20; j++) e.is("call " + j, x.cut(j, 19 - j, false, true), 19 - j);
        e.range("n", RICH, n -> y -> y.scan(0, 0, 0, n), 0, 20);
        for (int f : new int[] {MIN, -1, 10, 60, MAX}) {
            e.is("none of them reads a cell, from " + f, Twins.made(RICH).scan(0, 0, f, 0), 5);
        }
    }

    private static void scanKinds(Edges e) {
        StackDepths x = Due.with(1, 1);
        Twins.lay(x, 0, 0, 0, 1, 0, 0, 1, 1, 0, 1, 2, 0, 1, 3);
        e.is("all four", x.scan(0, 0, 0, 4), 4);
        e.is("3", x.cut(0, 1, true, true), 3);
        e.is("2", x.cut(0, 1, true, false), 2);
        e.is("1", x.cut(0, 1, false, true), 1);
        e.is("0", x.cut(0, 1, false, false), 0);
        StackDepths pointers = Due.with(1);
        Twins.lay(pointers, 0, 2, 0, 7, 2, 0, 7, 3);
        e.is("pointer 7 of one routine", pointers.scan(0, 2, 0, 2), 2);
        e.refused("pointer 8", sheet(0, 0, 8, 2), y -> y.scan(3, 0, 0, 1), REFUSED_BAD);
        e.refused("pointer -1, a tail", sheet(0, 0, -1, 3), y -> y.scan(3, 0, 0, 1), REFUSED_BAD);
        e.refused("routine 6", sheet(0, 0, 6, 0), y -> y.scan(3, 0, 0, 1), REFUSED_BAD);
        e.refused("routine 6, a tail", sheet(0, 0, 6, 1), y -> y.scan(3, 0, 0, 1), REFUSED_BAD);
    }

    private static void scanFrom(Edges e) {
        StackDepths x = Twins.made(RICH);
        e.is("cell 0", x.scan(0, 0, 0, 1), 6);
        e.is("came", x.cut(5, 4, false, false), 5);
        e.is("cell 3", x.scan(0, 0, 3, 1), 6);
        e.is("that came", x.cut(4, 1, false, true), 5);
        e.is("the last three of four, and the first", x.scan(2, 2, 0, 1), 6);
        e.is("of sheet 2", x.cut(2, 3, false, true), 5);
        e.is("from 1", x.scan(2, 2, 1, 1), 6);
        e.is("3 to 1", x.cut(3, 1, false, false), 5);
        StackDepths last = Due.with(1);
        last.sheet(0, 1, 60);
        e.is("before a look", last.about(0, 2), 0);
        e.is("the last three of sixty", last.scan(0, 1, 57, 1), 1);
        e.is("after it", last.about(0, 2), 1);
    }

    private static void scanBad(Edges e) {
        e.range("k", RICH, k -> x -> x.scan(k, 0, 0, 1), 0, 3);
        e.range("lane", RICH, lane -> x -> x.scan(0, lane, 0, 1), 0, 2);
        e.range("n", RICH, n -> x -> x.scan(0, 0, 0, n), 0, 20);
        e.range("k, without calls", RICH, k -> x -> x.scan(k, 0, 0, 0), 0, 3);
        e.refused("lane, before NULL", RICH, x -> x.scan(3, 3, 0, 0), BAD);
        e.refused("n, before NULL", RICH, x -> x.scan(3, 0, 0, -1), BAD);
        e.refused("n, before CAST", RICH, x -> x.scan(0, 1, 0, 21), BAD);
        e.refused("n, before INDEX", RICH, x -> x.scan(0, 0, -1, 21), BAD);
    }

    private static void scanNull(Edges e) {
        for (int lane = 0; lane < 3; lane++) {
            int of = lane;
            e.refused("lane " + lane, RICH, x -> x.scan(3, of, 0, 1), NULL);
            e.refused("without calls, lane " + lane, RICH, x -> x.scan(3, of, 0, 0), NULL);
            e.refused("before INDEX, lane " + lane, RICH, x -> x.scan(3, of, -1, 20), NULL);
        }
        e.is("no cells are not nothing", Twins.made(sheet(0)).scan(3, 0, 0, 0), 5);
    }

    private static void scanCast(Edges e) {
        for (int k = 0; k < 3; k++) {
            for (int l = 0; l < 3; l++) {
                int of = k, lane = l;
                if (k == l) continue;
                e.refused("sheet " + k + " as of lane " + l, RICH, x -> x.scan(of, lane, 0, 1), CAST);
                e.refused("without calls", RICH, x -> x.scan(of, lane, 0, 0), CAST);
                e.refused("before INDEX", RICH, x -> x.scan(of, lane, MAX, 20), CAST);
            }
        }
        e.refused("of no cells", sheet(0), x -> x.scan(3, 1, 0, 0), CAST);
        e.refused("before what call() refuses", sheet(0, 0, 1, 0), x -> x.scan(3, 2, 0, 1), CAST);
    }

    private static void scanIndex(Edges e) {
        for (int f : new int[] {-1, -2, -3, 8, 9, 10, 60, MIN, MIN + 1, MIN + 2, MAX - 2, MAX - 1, MAX}) {
            e.refused("from " + f, RICH, x -> x.scan(0, 0, f, 1), INDEX);
            e.refused("twenty from " + f, RICH, x -> x.scan(0, 0, f, 20), INDEX);
        }
        e.is("just within", Twins.made(sheet(0, 9, 5, 5, 0)).scan(3, 0, 1, 1), 6);
        e.refused("one cell short", sheet(0, 9, 5, 5), x -> x.scan(3, 0, 1, 1), INDEX);
        e.refused("two cells short", sheet(0, 9, 5), x -> x.scan(3, 0, 1, 1), INDEX);
        e.refused("three cells short", sheet(0, 9), x -> x.scan(3, 0, 1, 1), INDEX);
        e.refused("no cells", sheet(0), x -> x.scan(3, 0, 0, 1), INDEX);
        e.refused("the second call", sheet(0, 5, 5, 0, 5, 5), x -> x.scan(3, 0, 0, 2), INDEX);
        e.refused("behind a first that is good", sheet(0, 5, 5, 0), x -> x.scan(3, 0, 0, 2), INDEX);
        e.refused("index before what its own cells say", sheet(0, 99, 99), x -> x.scan(3, 0, 0, 1), INDEX);
        e.refused("twenty of fifty-nine cells", EdgesOfSheets::fiftyNineCells, x -> x.scan(0, 0, 0, 20), INDEX);
    }

    private static void fiftyNineCells(StackDepths x) {
        for (int r = 0; r < 20; r++) x.routine(r);
        x.sheet(0, 0, 59);
        for (int j = 0; j < 20; j++) x.lay(0, 3 * j, j);
    }

    private static void scanRefused(Edges e) {
        e.refused("BAD: the caller above", sheet(2, 6, 0, 0), x -> x.scan(3, 2, 0, 1), REFUSED_BAD);
        e.refused("BAD: the caller below", sheet(2, -1, 0, 0), x -> x.scan(3, 2, 0, 1), REFUSED_BAD);
        e.refused("BAD: far above", sheet(2, MAX, 0, 0), x -> x.scan(3, 2, 0, 1), REFUSED_BAD);
        e.refused("BAD: far below", sheet(2, 0, MIN, 0), x -> x.scan(3, 2, 0, 1), REFUSED_BAD);
        e.refused("STATE: it is there", sheet(0, 0, 1, 0), x -> x.scan(3, 0, 0, 1), REFUSED_STATE);
        e.refused("STATE: a tail", sheet(0, 1, 2, 1), x -> x.scan(3, 0, 0, 1), REFUSED_STATE);
        e.refused("STATE: by a pointer", sheet(0, 0, 3, 2), x -> x.scan(3, 0, 0, 1), REFUSED_STATE);
        e.refused("STATE: twice on the sheet", sheet(0, 5, 5, 3, 5, 5, 3), x -> x.scan(3, 0, 0, 2), REFUSED_STATE);
        e.refused("FULL", fullWith(3, 3, 0), x -> x.scan(0, 0, 0, 1), REFUSED_FULL);
        e.refused("STATE before FULL", fullWith(3, 2, 1), x -> x.scan(0, 0, 0, 1), REFUSED_STATE);
        e.refused("BAD before FULL", fullWith(3, 20, 1), x -> x.scan(0, 0, 0, 1), REFUSED_BAD);
        Twins.State oneFree = fullWith(3, 3, 0, 3, 4, 0).and(x -> x.cut(0, 0, false, true));
        e.is("one more comes", Twins.made(oneFree).scan(0, 0, 0, 1), 60);
        e.refused("FULL at the second", oneFree, x -> x.scan(0, 0, 0, 2), REFUSED_FULL);
    }

    private static Twins.State fullWith(int... cells) {
        return x -> {
            Twins.sixtyCalls(x);
            Twins.lay(x, 0, 0, cells);
        };
    }

    private static void scanThird(Edges e) {
        for (int third : new int[] {4, 5, -1, -2, -4, 256, 65536, MIN, MIN + 3, MAX}) {
            e.refused("the third is " + third, sheet(2, 5, 5, third), x -> x.scan(3, 2, 0, 1), REFUSED_BAD);
        }
        for (int third = 0; third <= 3; third++) {
            e.is("the third is " + third, Twins.made(sheet(2, 5, 5, third)).scan(3, 2, 0, 1), 6);
        }
        e.refused("before STATE", sheet(2, 0, 1, 4), x -> x.scan(3, 2, 0, 1), REFUSED_BAD);
        e.refused("before FULL", fullWith(3, 3, 4), x -> x.scan(0, 0, 0, 1), REFUSED_BAD);
    }

    private static void scanFirstMet(Edges e) {
        e.refused("STATE, then BAD", sheet(0, 0, 1, 0, 9, 9, 9), x -> x.scan(3, 0, 0, 2), REFUSED_STATE);
        e.refused("BAD, then STATE", sheet(0, 9, 9, 9, 0, 1, 0), x -> x.scan(3, 0, 0, 2), REFUSED_BAD);
        e.refused("STATE, then INDEX", sheet(0, 0, 1, 0), x -> x.scan(3, 0, 0, 2), REFUSED_STATE);
        e.refused("BAD, then INDEX", sheet(0, 9, 9, 9, 0), x -> x.scan(3, 0, 0, 20), REFUSED_BAD);
        e.refused("FULL, then BAD", fullWith(3, 3, 0, 20, 20, 0), x -> x.scan(0, 0, 0, 2), REFUSED_FULL);
        e.refused("FULL, then INDEX", fullWith(3, 3, 0), x -> x.scan(0, 0, 0, 2), REFUSED_FULL);
    }

    private static void scanNoneCame(Edges e) {
        Twins.State four = sheet(0, 5, 0, 0, 5, 1, 1, 5, 2, 2, 5, 3, 3, 0, 1, 0);
        e.is("four are good", Twins.made(four).scan(3, 0, 0, 4), 9);
        e.refused("the fifth is there", four, x -> x.scan(3, 0, 0, 5), REFUSED_STATE);
        e.refused("the sixth has no cells", four.and(x -> x.lay(3, 14, 3)), x -> x.scan(3, 0, 0, 6), INDEX);
        e.refused("a ring that came and went", sheet(0, 1, 0, 0, 0, 1, 0), x -> x.scan(3, 0, 0, 2), REFUSED_STATE);
        StackDepths x = Twins.made(four);
        x.depth(0);
        x.scan(3, 0, 0, 5);
        e.is("nothing new is reached", x.about(5, 4), 0);
        for (int kind = 0; kind < 4; kind++) {
            e.is("kind " + kind + " is not there", x.cut(5, kind, kind >= 2, kind % 2 == 1), STATE);
        }
        e.is("the one that was there is", x.cut(0, 1, false, false), 4);
        StackDepths last = Due.with(1, 1);
        last.sheet(0, 0, 60);
        e.is("the second of twenty is there by then", last.scan(0, 0, 0, 20), REFUSED_STATE);
        e.is("none", last.count(1), 0);
    }

    private static void countNoneAndAll(Edges e) {
        StackDepths x = new StackDepths();
        for (int what = 0; what <= 4; what++) e.is("none, " + what, x.count(what), 0);
        for (int r = 0; r < 20; r++) x.routine(r);
        for (int r = 0; r < 20; r++) x.call(r, r, false, false);
        e.is("twenty rings", x.count(4), 20);
        for (int i = 0; i < 40; i++) x.call(i % 20, (i % 20 + i / 20 + 1) % 20, false, true);
        for (int i = 0; i < 8; i++) x.interrupt(1, 0, 0);
        for (int t = 0; t < 6; t++) x.task(0, 0, 0);
        int[] most = {20, 60, 8, 6, 1};
        for (int what = 0; what <= 4; what++) e.is("the most, " + what, x.count(what), most[what]);
        for (int r = 0; r < 20; r++) x.cut(r, r, false, false);
        e.is("tails alone are no ring", x.count(4), 0);
    }

    private static void countCells(Edges e) {
        e.refused("nothing", EMPTY, x -> x.count(5), NONE);
        e.refused("other sheets do not count", EMPTY.and(x -> x.sheet(1, 0, 60)), x -> x.count(5), NONE);
        StackDepths x = new StackDepths();
        for (int n : new int[] {0, 1, 60, 0}) {
            x.sheet(0, n % 3, n);
            e.is("cells", x.count(5), n);
        }
    }

    private static void countBad(Edges e) {
        e.range("what", RICH, what -> x -> x.count(what), 0, 5);
        e.range("what, of a new object", EMPTY, what -> x -> x.count(what), 0, 5);
    }
}
