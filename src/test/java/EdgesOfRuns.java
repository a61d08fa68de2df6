/** The boundary cases that promises 22 to 26 name. */
final class EdgesOfRuns {
    private static final int BAD = -1, STATE = -2, FULL = -3, NONE = -4;
    private static final Twins.State RICH = Twins::rich, EMPTY = x -> {};
    private static final Twins.State NEVER_RAN = x -> {
        for (int r = 0; r < 6; r++) x.routine(r + 1);
    };
    private static final Twins.State ENDED = NEVER_RAN.and(x -> {
        x.run(1);
        x.enter(2);
        x.leave();
        x.leave();
    });

    private EdgesOfRuns() {}

    static void tell(Edges e) {
        e.edge("Promise 22", "(another one ends): how deep it is", EdgesOfRuns::runEndsAnother);
        e.edge("Promise 22", "BAD", EdgesOfRuns::runBad);
        e.edge("Promise 22", "(FRAMES count as they are when a ROUTINE comes.)", EdgesOfRuns::framesWhenTheyCome);
        e.edge("Promise 23", "ENTER: how deep it is then", EdgesOfRuns::enterDeepest);
        e.edge("Promise 23", "BAD", EdgesOfRuns::enterBad);
        e.edge("Promise 23", "STATE: no RUN", EdgesOfRuns::enterWithoutARun);
        e.edge("Promise 23", "FULL: 40 are there", EdgesOfRuns::enterFull);
        e.edge("Promise 24", "GO OVER: how deep", EdgesOfRuns::overOfForty);
        e.edge("Promise 24", "BAD", EdgesOfRuns::overBad);
        e.edge("Promise 24", "STATE", EdgesOfRuns::overWithoutARun);
        e.edge("Promise 25", "how deep it is then (0: the RUN ended)", EdgesOfRuns::leaveToTheEnd);
        e.edge("Promise 25", "STATE", EdgesOfRuns::leaveWithoutARun);
        e.edge("Promise 26", "Of the latest RUN", EdgesOfRuns::ranLatest);
        e.edge("Promise 26", "0 how deep it is, 1 the most that it was, 2 how many ROUTINES",
                EdgesOfRuns::ranDepthsAndNumbers);
        e.edge("Promise 26", "3 STRANGE steps, 4 those that were OVER", EdgesOfRuns::ranMarks);
        e.edge("Promise 26", "5 the ROUTINE on top (NONE)", EdgesOfRuns::ranTop);
        e.edge("Promise 26", "6 whether it was never deeper than DEPTH of its first ROUTINE as it is now (1, 0",
                EdgesOfRuns::ranNeverDeeper);
        e.edge("Promise 26", "ENDLESS: 1", EdgesOfRuns::ranEndless);
        e.edge("Promise 26", "BAD", EdgesOfRuns::ranBad);
        e.edge("Promise 26", "STATE: there was none", EdgesOfRuns::ranWithoutARun);
    }

    private static void forty(StackDepths x) {
        x.routine(500);
        x.routine(499);
        x.turns(0, 20);
        x.run(0);
        for (int i = 1; i < 40; i++) x.enter(0);
    }

    private static void runEndsAnother(Edges e) {
        StackDepths x = Twins.made(RICH);
        e.is("a frame of 0", x.run(5), 0);
        e.is("is a run", x.ran(2), 1);
        e.is("the most", x.ran(1), 0);
        e.is("no strange steps", x.ran(3), 0);
        e.is("none over", x.ran(4), 0);
        e.is("of forty", fortyThenRun(), 500);
        StackDepths y = Twins.made(ENDED);
        e.is("behind one that ended", y.run(0), 1);
        StackDepths over = Due.with(1);
        over.turns(0, 1);
        over.run(0);
        over.enter(0);
        over.run(0);
        over.enter(0);
        e.is("who stood in another one does not stand here", over.ran(4), 1);
    }

    private static int fortyThenRun() {
        StackDepths x = Twins.made(EdgesOfRuns::forty);
        return x.run(0);
    }

    private static void runBad(Edges e) {
        e.range("a routine, in a run", RICH, r -> x -> x.run(r), 0, 5);
        e.range("a routine, after a run", ENDED, r -> x -> x.run(r), 0, 5);
        e.range("a routine, before any run", NEVER_RAN, r -> x -> x.run(r), 0, 5);
        e.refused("of none", EMPTY, x -> x.run(0), BAD);
    }

    private static void framesWhenTheyCome(Edges e) {
        StackDepths x = Due.with(10, 20);
        x.run(0);
        x.frame(0, 500);
        e.is("what came stays", x.ran(0), 10);
        e.is("what comes", x.enter(0), 510);
        x.frame(0, 0);
        e.is("leaves with what it had", x.leave(), 10);
        e.is("goes over with what it had", x.over(1), 20);
        x.frame(1, 7);
        e.is("a run that begins", x.run(1), 7);
        e.is("its most", x.ran(1), 7);
    }

    private static void enterDeepest(Edges e) {
        StackDepths x = Twins.made(EdgesOfRuns::forty);
        e.is("forty times the greatest frame", x.ran(0), 20000);
        StackDepths changed = Due.with(1, 1);
        changed.run(0);
        changed.call(0, 1, false, false);
        changed.enter(1);
        e.is("a call that has just come", changed.ran(3), 0);
        changed.leave();
        changed.cut(0, 1, false, false);
        changed.enter(1);
        e.is("a call that has just gone", changed.ran(3), 1);
        StackDepths none = Due.with(0);
        none.run(0);
        for (int i = 1; i < 40; i++) e.is("frames of 0", none.enter(0), 0);
        e.is("are there", none.ran(2), 40);
    }

    private static void enterBad(Edges e) {
        e.range("a routine", RICH, r -> x -> x.enter(r), 0, 5);
        e.refused("before STATE", ENDED, x -> x.enter(6), BAD);
        e.refused("before STATE, without a run", NEVER_RAN, x -> x.enter(-1), BAD);
        e.refused("before FULL", EdgesOfRuns::forty, x -> x.enter(2), BAD);
        e.refused("of none", EMPTY, x -> x.enter(0), BAD);
    }

    private static void enterWithoutARun(Edges e) {
        for (int r = 0; r < 6; r++) {
            int asked = r;
            e.refused("there was none", NEVER_RAN, x -> x.enter(asked), STATE);
            e.refused("it ended", ENDED, x -> x.enter(asked), STATE);
        }
    }

    private static void enterFull(Edges e) {
        e.refused("the same one", EdgesOfRuns::forty, x -> x.enter(0), FULL);
        e.refused("another one", EdgesOfRuns::forty, x -> x.enter(1), FULL);
        StackDepths x = Twins.made(EdgesOfRuns::forty);
        e.is("forty", x.ran(2), 40);
        e.is("one leaves", x.leave(), 19500);
        e.is("one comes", x.enter(1), 19999);
        e.is("and no more", x.enter(1), FULL);
        StackDepths y = Due.with(1);
        y.run(0);
        for (int i = 1; i < 39; i++) y.enter(0);
        e.is("the fortieth", y.enter(0), 40);
    }

    private static void overOfForty(Edges e) {
        StackDepths x = Twins.made(EdgesOfRuns::forty);
        e.is("forty are there, and one goes over", x.over(1), 19999);
        e.is("still forty", x.ran(2), 40);
        e.is("the most", x.ran(1), 20000);
        StackDepths one = Due.with(3, 0);
        one.run(0);
        e.is("the only one", one.over(1), 0);
        e.is("the run goes on", one.over(0), 3);
        StackDepths changed = Due.with(1, 1);
        changed.run(0);
        changed.call(0, 1, false, true);
        changed.over(1);
        e.is("a tail that has just come", changed.ran(3), 0);
        changed.over(0);
        changed.cut(0, 1, false, true);
        changed.over(1);
        e.is("a tail that has just gone", changed.ran(3), 2);
    }

    private static void overBad(Edges e) {
        e.range("a routine", RICH, r -> x -> x.over(r), 0, 5);
        e.refused("before STATE", ENDED, x -> x.over(6), BAD);
        e.refused("before STATE, without a run", NEVER_RAN, x -> x.over(-1), BAD);
        e.refused("of forty", EdgesOfRuns::forty, x -> x.over(2), BAD);
        e.refused("of none", EMPTY, x -> x.over(0), BAD);
    }

    private static void overWithoutARun(Edges e) {
        for (int r = 0; r < 6; r++) {
            int asked = r;
            e.refused("there was none", NEVER_RAN, x -> x.over(asked), STATE);
            e.refused("it ended", ENDED, x -> x.over(asked), STATE);
        }
    }

    private static void leaveToTheEnd(Edges e) {
        StackDepths x = Twins.made(EdgesOfRuns::forty);
        for (int i = 39; i > 0; i--) e.is("of forty", x.leave(), 500 * i);
        e.is("the last", x.leave(), 0);
        e.is("the run ended", x.leave(), STATE);
        StackDepths zero = Due.with(0, 5);
        zero.run(0);
        zero.enter(1);
        e.is("one of frame 0 stays", zero.leave(), 0);
        e.is("it is there", zero.ran(2), 1);
        e.is("and then leaves", zero.leave(), 0);
        e.is("no more", zero.leave(), STATE);
    }

    private static void leaveWithoutARun(Edges e) {
        e.refused("of a new object", EMPTY, x -> x.leave(), STATE);
        e.refused("there was none", NEVER_RAN, x -> x.leave(), STATE);
        e.refused("it ended", ENDED, x -> x.leave(), STATE);
    }

    private static void ranLatest(Edges e) {
        StackDepths x = Twins.made(ENDED);
        int[] due = {0, 5, 0, 1, 0, NONE, 0};
        for (int what = 0; what <= 6; what++) e.is("of one that ended, " + what, x.ran(what), due[what]);
        x.run(4);
        int[] then = {5, 5, 1, 0, 0, 4, 1};
        for (int what = 0; what <= 6; what++) e.is("of the next, " + what, x.ran(what), then[what]);
    }

    private static void ranDepthsAndNumbers(Edges e) {
        StackDepths x = Due.with(0, 5);
        x.run(0);
        e.is("as deep as 0", x.ran(0), 0);
        e.is("at most 0", x.ran(1), 0);
        e.is("one", x.ran(2), 1);
        x.enter(1);
        x.over(0);
        e.is("no longer deep", x.ran(0), 0);
        e.is("but it was", x.ran(1), 5);
        e.is("two", x.ran(2), 2);
        StackDepths most = Twins.made(EdgesOfRuns::forty);
        most.leave();
        e.is("deep", most.ran(0), 19500);
        e.is("the most of all", most.ran(1), 20000);
        e.is("thirty-nine", most.ran(2), 39);
    }

    private static void ranMarks(Edges e) {
        StackDepths x = Twins.made(EdgesOfRuns::forty);
        e.is("all steps are strange", x.ran(3), 39);
        e.is("twenty of forty are over", x.ran(4), 20);
        for (int i = 0; i < 40; i++) x.leave();
        e.is("strange steps stay", x.ran(3), 39);
        e.is("those over stay", x.ran(4), 20);
        StackDepths both = Due.with(1);
        both.turns(0, 1);
        both.run(0);
        both.enter(0);
        e.is("one step may be strange", both.ran(3), 1);
        e.is("and over", both.ran(4), 1);
        both.call(0, 0, false, false);
        both.turns(0, 20);
        e.is("marks are as of then: strange", both.ran(3), 1);
        e.is("marks are as of then: over", both.ran(4), 1);
    }

    private static void ranTop(Edges e) {
        StackDepths x = Due.with(1, 1, 1);
        x.run(2);
        e.is("the first", x.ran(5), 2);
        x.enter(0);
        e.is("entered", x.ran(5), 0);
        x.over(1);
        e.is("gone over", x.ran(5), 1);
        x.leave();
        e.is("left", x.ran(5), 2);
        e.refused("nobody", ENDED, y -> y.ran(5), NONE);
    }

    private static void ranNeverDeeper(Edges e) {
        StackDepths x = Due.with(5, 8);
        x.run(0);
        e.is("as deep", x.ran(6), 1);
        x.frame(0, 4);
        e.is("as it is now: one less", x.ran(6), 0);
        x.frame(0, 6);
        e.is("as it is now: one more", x.ran(6), 1);
        x.enter(1);
        x.leave();
        e.is("it was deeper", x.ran(6), 0);
        x.frame(0, 13);
        e.is("just as deep as the most", x.ran(6), 1);
        x.frame(0, 12);
        e.is("one less than the most", x.ran(6), 0);
        x.call(0, 1, false, false);
        e.is("a call that came later", x.ran(6), 1);
        StackDepths first = Due.with(5, 8);
        first.run(0);
        first.over(1);
        e.is("the first is the one that it began with", first.ran(6), 0);
        first.frame(0, 8);
        e.is("as that is now", first.ran(6), 1);
    }

    private static void ranEndless(Edges e) {
        StackDepths x = Due.with(0, 500);
        x.run(0);
        x.enter(1);
        e.is("deeper", x.ran(6), 0);
        x.call(0, 0, false, false);
        e.is("endless", x.ran(6), 1);
        x.turns(0, 20);
        e.is("no longer", x.ran(6), 0);
        x.turns(0, 0);
        x.leave();
        x.leave();
        e.is("endless, and it ended", x.ran(6), 1);
    }

    private static void ranBad(Edges e) {
        e.range("what, in a run", RICH, what -> x -> x.ran(what), 0, 6);
        e.range("what, after a run", ENDED, what -> x -> x.ran(what), 0, 6);
        e.range("what, before any run", NEVER_RAN, what -> x -> x.ran(what), 0, 6);
    }

    private static void ranWithoutARun(Edges e) {
        for (int what = 0; what <= 6; what++) {
            int asked = what;
            e.refused("of a new object, " + what, EMPTY, x -> x.ran(asked), STATE);
            e.refused("without a run, " + what, NEVER_RAN, x -> x.ran(asked), STATE);
            Twins.State refused = NEVER_RAN.and(x -> x.run(6));
            e.refused("after a refused one, " + what, refused, x -> x.ran(asked), STATE);
        }
    }
}
