/** The boundary cases that promises 11 to 13 name. */
final class EdgesOfDepths {
    private static final int BAD = -1, STATE = -2, NONE = -4, ENDLESS = -5;
    private static final int MAX = Integer.MAX_VALUE;
    private static final Twins.State RICH = Twins::rich, ENDLESSLY = Twins::richAndEndless;

    private EdgesOfDepths() {}

    static void tell(Edges e) {
        e.edge("Promise 11", "DEPTH", EdgesOfDepths::leastAndGreatestDepth);
        e.edge("Promise 11", "BAD", EdgesOfDepths::depthBad);
        e.edge("Promise 11", "ENDLESS", EdgesOfDepths::depthEndless);
        e.edge("Promise 12", "its ROUTINE i (0: itself)", EdgesOfDepths::wayItself);
        e.edge("Promise 12", "(not of others TOGETHER with it) is less than its DEPTH: "
                + "the least one TOGETHER with it of which it tells that", EdgesOfDepths::wayToAnotherTogether);
        e.edge("Promise 12", "else the least one that it CALLS by no TAIL whose DEPTH and its own FRAME are its DEPTH",
                EdgesOfDepths::wayByACall);
        e.edge("Promise 12", "else the least one that it CALLS by a TAIL, not TOGETHER with it, that has its DEPTH",
                EdgesOfDepths::wayByATail);
        e.edge("Promise 12", "else none", EdgesOfDepths::wayEnds);
        e.edge("Promise 12", "BAD: also i below 0", EdgesOfDepths::wayBad);
        e.edge("Promise 12", "STATE: it is of a RING, or REACHES one", EdgesOfDepths::wayMeetsARing);
        e.edge("Promise 12", "NONE: it is not so long", EdgesOfDepths::wayIsNotSoLong);
        e.edge("Promise 13", "REACHED from one (itself too)", EdgesOfDepths::endlessItselfToo);
        e.edge("Promise 13", "The least ROUTINE", EdgesOfDepths::endlessLeast);
        e.edge("Promise 13", "is of a RING and has no TURNS told", EdgesOfDepths::endlessOfARing);
        e.edge("Promise 13", "BAD", EdgesOfDepths::endlessBad);
        e.edge("Promise 13", "NONE", EdgesOfDepths::endlessNone);
    }

    private static StackDepths twenty(int frame) {
        StackDepths x = new StackDepths();
        for (int r = 0; r < 20; r++) x.routine(frame);
        return x;
    }

    private static void leastAndGreatestDepth(Edges e) {
        e.is("the least", Due.with(0).depth(0), 0);
        e.is("one frame", Due.with(500).depth(0), 500);
        StackDepths chain = twenty(500);
        for (int r = 0; r < 19; r++) chain.call(r, r + 1, false, false);
        e.is("twenty frames", chain.depth(0), 10000);
        chain.call(19, 0, false, false);
        for (int r = 0; r < 20; r++) chain.turns(r, 20);
        e.is("all in a ring with all turns", chain.depth(7), 200000);
        StackDepths tails = twenty(500);
        for (int r = 0; r < 19; r++) tails.call(r, r + 1, false, true);
        e.is("tails alone add nothing", tails.depth(0), 500);
    }

    private static void depthBad(Edges e) {
        e.range("a routine", RICH, r -> x -> x.depth(r), 0, 5);
        e.refused("of none", x -> {}, x -> x.depth(0), BAD);
    }

    private static void depthEndless(Edges e) {
        e.refused("of the ring", ENDLESSLY, x -> x.depth(5), ENDLESS);
        e.refused("by a tail", ENDLESSLY, x -> x.depth(4), ENDLESS);
        e.refused("by a call", ENDLESSLY, x -> x.depth(0), ENDLESS);
        e.is("not what is beside", Twins.made(ENDLESSLY).depth(3), 40);
        StackDepths x = Twins.made(ENDLESSLY);
        x.turns(5, 1);
        e.is("told", x.depth(0), 60);
    }

    private static void wayItself(Edges e) {
        StackDepths x = twenty(0);
        for (int r = 0; r < 20; r++) e.is("itself", x.way(r, 0), r);
        e.is("also where another tells its depth", Twins.made(RICH).way(1, 0), 1);
    }

    private static void wayToAnotherTogether(Edges e) {
        StackDepths x = Due.with(1, 9, 9, 4);
        for (int r = 0; r < 4; r++) x.call(r, (r + 1) % 4, false, true);
        e.is("the least of two", x.way(3, 1), 1);
        e.is("which tells it itself", x.way(3, 2), NONE);
        e.is("another that tells it itself stays", x.way(2, 1), NONE);
        x.frame(3, 10);
        e.is("from the least of all", x.way(0, 1), 3);
        x.frame(0, 10);
        e.is("one that is as deep stays", x.way(0, 1), NONE);
        e.is("the least may be the first of all", x.way(1, 1), 0);
    }

    private static void wayByACall(Edges e) {
        StackDepths x = Due.with(5, 7, 8, 8, 13);
        x.call(0, 1, false, false);
        x.call(0, 3, false, false);
        x.call(0, 2, false, false);
        x.call(0, 4, false, true);
        e.is("the least of two, before a tail that is as deep", x.way(0, 1), 2);
        x.frame(0, 0);
        x.frame(4, 0);
        e.is("its own frame is 0", x.way(0, 1), 2);
        StackDepths y = Due.with(5, 0, 0);
        y.call(0, 2, false, false);
        y.call(0, 1, false, false);
        e.is("one whose depth is 0", y.way(0, 1), 1);
        StackDepths z = Due.with(5, 5);
        z.call(0, 1, false, true);
        z.call(0, 1, false, false);
        e.is("a call beside a tail", z.way(0, 1), 1);
        e.is("so deep", z.depth(0), 10);
    }

    private static void wayByATail(Edges e) {
        StackDepths x = Due.with(5, 4, 6, 6);
        x.call(0, 1, false, false);
        x.call(0, 3, false, true);
        x.call(0, 2, false, true);
        e.is("a call is deeper", x.way(0, 1), 1);
        x.frame(1, 0);
        e.is("then the least tail", x.way(0, 1), 2);
        StackDepths y = Due.with(6, 6, 6);
        y.call(0, 2, false, true);
        y.call(2, 0, false, true);
        y.call(0, 0, false, true);
        e.is("together with it, or itself, is none", y.way(0, 1), NONE);
        y.call(0, 1, false, true);
        e.is("as deep as its own frame", y.way(0, 1), 1);
        e.is("from the other one as well it stays", y.way(2, 1), NONE);
    }

    private static void wayEnds(Edges e) {
        e.is("calls nothing", Due.with(5).way(0, 1), NONE);
        StackDepths x = Due.with(5, 4);
        x.call(0, 1, false, true);
        e.is("a tail that is less", x.way(0, 1), NONE);
        x.call(0, 3, true, false);
        e.is("a pointer without goals", x.way(0, 1), NONE);
        StackDepths y = Due.with(5, 4, 4);
        y.call(0, 1, false, false);
        y.call(0, 2, false, true);
        y.frame(1, 0);
        e.is("calls before it ends", y.way(0, 1), 1);
        e.is("and ends there", y.way(0, 2), NONE);
    }

    private static void wayBad(Edges e) {
        e.range("a routine", RICH, r -> x -> x.way(r, 0), 0, 5);
        for (int i : new int[] {-1, -2, -20, Integer.MIN_VALUE}) {
            e.refused("i " + i, RICH, x -> x.way(0, i), BAD);
            e.refused("i " + i + " before a ring", ENDLESSLY, x -> x.way(5, i), BAD);
        }
        e.within("i", RICH, i -> x -> x.way(0, i), 0, MAX);
    }

    private static void wayMeetsARing(Edges e) {
        for (int i : new int[] {0, 1, MAX}) {
            e.refused("of a ring, " + i, ENDLESSLY, x -> x.way(5, i), STATE);
            e.refused("reaches one by a tail, " + i, ENDLESSLY, x -> x.way(4, i), STATE);
            e.refused("reaches one by calls, " + i, ENDLESSLY, x -> x.way(0, i), STATE);
        }
        Twins.State told = ENDLESSLY.and(x -> x.turns(5, 1));
        e.refused("turns do not help", told, x -> x.way(5, 0), STATE);
        e.is("beside it", Twins.made(ENDLESSLY).way(3, 0), 3);
        StackDepths called = Due.with(1, 1);
        called.call(0, 1, false, false);
        called.call(0, 0, false, false);
        e.is("one that a ring calls", called.way(1, 0), 1);
        StackDepths beside = Due.with(9, 1, 1);
        beside.call(0, 1, false, true);
        beside.call(1, 1, false, false);
        beside.turns(1, 1);
        e.is("a ring off the deepest way", beside.way(0, 0), STATE);
    }

    private static void wayIsNotSoLong(Edges e) {
        StackDepths x = twenty(1);
        for (int r = 0; r < 19; r++) x.call(r, r + 1, false, r % 3 == 0);
        e.is("the last of a way by calls and tails", x.way(17, 2), 19);
        StackDepths chain = twenty(0);
        for (int r = 19; r > 0; r--) chain.call(r, r - 1, false, false);
        e.is("the twentieth", chain.way(19, 19), 0);
        e.is("one more", chain.way(19, 20), NONE);
        for (int i : new int[] {3, 4, 19, 20, 21, 256, MAX - 1, MAX}) {
            e.refused("the way of 0 has 0 and 4, not " + i, RICH, y -> y.way(0, i), NONE);
        }
        e.is("its last", Twins.made(RICH).way(0, 1), 4);
        e.refused("just behind it", RICH, y -> y.way(0, 2), NONE);
        e.refused("of one alone", RICH, y -> y.way(3, 1), NONE);
    }

    private static void endlessItselfToo(Edges e) {
        StackDepths x = Due.with(1, 1);
        x.call(0, 0, false, false);
        x.call(0, 1, false, true);
        x.call(1, 1, false, false);
        e.is("itself", x.endless(0), 0);
        x.turns(0, 1);
        e.is("told: the one that it reaches", x.endless(0), 1);
        e.is("itself, above others", x.endless(1), 1);
    }

    private static void endlessLeast(Edges e) {
        StackDepths x = twenty(1);
        for (int r = 0; r < 20; r++) x.call(r, (r + 3) % 20, false, r != 11);
        for (int r = 0; r < 20; r++) {
            e.is("the least that is not told", x.endless(19 - r), r);
            x.turns(r, 1);
        }
        e.is("all told", x.endless(0), NONE);
    }

    private static void endlessOfARing(Edges e) {
        StackDepths x = Due.with(1, 1, 1);
        x.call(1, 0, false, true);
        x.call(0, 1, false, true);
        e.is("tails alone are no ring", x.endless(0), NONE);
        x.call(1, 2, false, false);
        x.call(2, 2, false, false);
        e.is("of the ring, not those on the way to it", x.endless(0), 2);
        x.turns(2, 20);
        e.is("told", x.endless(0), NONE);
        x.turns(2, 0);
        e.is("no longer told", x.endless(0), 2);
    }

    private static void endlessBad(Edges e) {
        e.range("a routine", RICH, r -> x -> x.endless(r), 0, 5);
        e.refused("of none", x -> {}, x -> x.endless(0), BAD);
    }

    private static void endlessNone(Edges e) {
        e.refused("no rings", RICH, x -> x.endless(0), NONE);
        e.refused("a ring that it does not reach", ENDLESSLY, x -> x.endless(3), NONE);
        e.refused("a ring that is told", ENDLESSLY.and(x -> x.turns(5, 1)), x -> x.endless(0), NONE);
        StackDepths called = Due.with(1, 1);
        called.call(0, 0, false, false);
        called.call(0, 1, false, false);
        e.is("one that a ring calls", called.endless(1), NONE);
    }
}
