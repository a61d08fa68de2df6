/**
 * How deep a stack can go. The document (../shared/DOC.md) says what each call promises; words in
 * capitals in the comments are the document's own terms.
 *
 * <p>Sets of ROUTINES, POINTERS and TASKS are kept as bits of an int, and every row is made with the
 * object, so that no call makes anything.
 */
public final class StackDepths {
    public static final int BAD = -1, STATE = -2, FULL = -3, NONE = -4, ENDLESS = -5;

    private static final int MOST_ROUTINES = 20, MOST_FRAME = 500, MOST_TURNS = 20;
    private static final int MOST_CALLS = 60, POINTERS = 8;
    private static final int MOST_INTERRUPTS = 8, MOST_TASKS = 6;
    private static final int MOST_RANK = 7, MOST_SAVED = 100, MOST_GUARD = 100;
    private static final int MOST_STANDING = 40;
    private static final int SHEETS = 4, LANES = 3, MOST_CELLS = 60;
    private static final int MOST_SCANNED = 20, CELLS_OF_A_CALL = 3;

    /** Kinds of CALLS as a SHEET writes them: the two bits may stand together. */
    private static final int TAIL_BIT = 1, POINTER_BIT = 2, KINDS = 4;

    private static final int FAULT = -10, FAULT_NULL = 1, FAULT_INDEX = 2, FAULT_CAST = 3, FAULT_SIZE = 4;
    private static final int REFUSED_CALL = -20;

    /** Inside alone: nothing is refused; no ROUTINE. */
    private static final int ALLOWED = 0, NOBODY = -1;

    private final Routines routines;
    private final Pointers pointers;
    private final Calls calls;
    private final Graph graph;
    private final Depths depths;
    private final Interrupts interrupts;
    private final Tasks tasks;
    private final Sharing sharing;
    private final Trail trail;
    private final Sheet[] sheets;

    public StackDepths() {
        routines = new Routines();
        pointers = new Pointers();
        calls = new Calls();
        graph = new Graph(routines, pointers, calls);
        depths = new Depths(routines, graph);
        interrupts = new Interrupts();
        tasks = new Tasks();
        sharing = new Sharing();
        trail = new Trail();
        sheets = new Sheet[SHEETS];
        for (int k = 0; k < SHEETS; k++) {
            sheets[k] = new Sheet();
        }
    }

    // ---- routines, calls, pointers

    public int routine(int frame) {
        if (!within(frame, 0, MOST_FRAME)) {
            return BAD;
        }
        if (routines.size >= MOST_ROUTINES) {
            return FULL;
        }
        graph.outdate();
        return routines.add(frame);
    }

    public int frame(int r, int v) {
        if (!isRoutine(r) || !within(v, 0, MOST_FRAME)) {
            return BAD;
        }
        int was = routines.frames[r];
        routines.frames[r] = v;
        return was;
    }

    public int turns(int r, int v) {
        if (!isRoutine(r) || !within(v, 0, MOST_TURNS)) {
            return BAD;
        }
        int was = routines.turns[r];
        routines.turns[r] = v;
        return was;
    }

    public int call(int a, int b, boolean pointer, boolean tail) {
        int kind = kindOf(pointer, tail);
        int refusal = refusalOfCall(a, b, kind);
        if (refusal != ALLOWED) {
            return refusal;
        }
        calls.add(a, b, kind);
        graph.outdate();
        return calls.size;
    }

    public int cut(int a, int b, boolean pointer, boolean tail) {
        int kind = kindOf(pointer, tail);
        if (!canBeCall(a, b, kind)) {
            return BAD;
        }
        if (!calls.has(a, b, kind)) {
            return STATE;
        }
        calls.remove(a, b, kind);
        graph.outdate();
        return calls.size;
    }

    public int take(int p, int r) {
        if (!isPointer(p) || !isRoutine(r)) {
            return BAD;
        }
        if (holds(pointers.taken[p], r)) {
            return STATE;
        }
        pointers.addTaken(p, r);
        graph.outdate();
        return 1;
    }

    public int flow(int p, int q) {
        if (!isPointer(p) || !isPointer(q)) {
            return BAD;
        }
        if (p == q || holds(pointers.sources[p], q)) {
            return STATE;
        }
        pointers.addSource(p, q);
        graph.outdate();
        return 1;
    }

    public int goals(int p) {
        return isPointer(p) ? pointers.goals[p] : BAD;
    }

    public int about(int r, int what) {
        if (!isRoutine(r)) {
            return BAD;
        }
        graph.refresh();
        switch (what) {
            case 0:
                return routines.frames[r];
            case 1:
                return routines.turns[r];
            case 2:
                return holds(graph.ringed, r) ? 1 : 0;
            case 3:
                return leastOf(graph.together[r]);
            case 4:
                return Integer.bitCount(graph.reached[r]);
            case 5:
                return graph.howManyReach(r);
            default:
                return BAD;
        }
    }

    // ---- depths

    public int depth(int r) {
        if (!isRoutine(r)) {
            return BAD;
        }
        depths.measure(NOBODY);
        return depths.found[r];
    }

    public int way(int r, int i) {
        if (!isRoutine(r) || i < 0) {
            return BAD;
        }
        graph.refresh();
        if ((graph.selfAndReached(r) & graph.ringed) != 0) {
            return STATE;
        }
        depths.measure(NOBODY);
        // Without RINGS a ROUTINE stands on its WAY but once, so that no WAY is longer than this.
        int steps = Math.min(i, MOST_ROUTINES);
        int at = r;
        for (int step = 0; step < steps && at != NONE; step++) {
            at = depths.nextOnWay(at);
        }
        return at;
    }

    public int endless(int r) {
        if (!isRoutine(r)) {
            return BAD;
        }
        graph.refresh();
        return leastOf(graph.selfAndReached(r) & graph.ringed & routines.withoutTurns());
    }

    // ---- tasks

    public int interrupt(int rank, int r, int saved) {
        if (!within(rank, 1, MOST_RANK) || !isRoutine(r) || !within(saved, 0, MOST_SAVED)) {
            return BAD;
        }
        if (interrupts.size >= MOST_INTERRUPTS) {
            return FULL;
        }
        return interrupts.add(rank, r, saved);
    }

    public int task(int r, int rank, int guard) {
        if (!isRoutine(r) || !within(rank, 0, MOST_RANK) || !within(guard, 0, MOST_GUARD)) {
            return BAD;
        }
        if (tasks.size >= MOST_TASKS) {
            return FULL;
        }
        return tasks.add(r, rank, guard);
    }

    public int total(int t, int what) {
        if (!isTask(t)) {
            return BAD;
        }
        depths.measure(NOBODY);
        switch (what) {
            case 0:
                return depths.found[tasks.routines[t]];
            case 1:
                return interrupts.topAbove(tasks.ranks[t], depths.found);
            case 2:
                return totalAsMeasured(t);
            case 3:
                return roomAsMeasured(t);
            default:
                return BAD;
        }
    }

    public int apart(int t, int u, boolean on) {
        if (!isTask(t) || !isTask(u) || t == u) {
            return BAD;
        }
        int was = holds(tasks.apart[t], u) ? 1 : 0;
        tasks.setApart(t, u, on);
        return was;
    }

    public int shared() {
        return shareRooms();
    }

    public int group(int t) {
        if (!isTask(t)) {
            return BAD;
        }
        return shareRooms() == ENDLESS ? ENDLESS : sharing.kept[t];
    }

    public int saves(int t, int r) {
        if (!isTask(t) || !isRoutine(r)) {
            return BAD;
        }
        int whole = totalWithout(t, NOBODY);
        return whole == ENDLESS ? ENDLESS : whole - totalWithout(t, r);
    }

    public int best(int t) {
        if (!isTask(t)) {
            return BAD;
        }
        int whole = totalWithout(t, NOBODY);
        if (whole == ENDLESS) {
            return ENDLESS;
        }
        int least = whole;
        int found = NONE;
        for (int r = 0; r < routines.size; r++) {
            int rest = totalWithout(t, r);
            if (rest < least) {
                least = rest;
                found = r;
            }
        }
        return found;
    }

    // ---- runs

    public int run(int r) {
        if (!isRoutine(r)) {
            return BAD;
        }
        trail.begin(r);
        trail.push(r, routines.frames[r]);
        return trail.deep;
    }

    public int enter(int r) {
        if (!isRoutine(r)) {
            return BAD;
        }
        if (trail.height == 0) {
            return STATE;
        }
        if (trail.height >= MOST_STANDING) {
            return FULL;
        }
        graph.refresh();
        trail.markStep(holds(graph.plain[trail.onTop()], r));
        return pushMarked(r);
    }

    public int over(int r) {
        if (!isRoutine(r)) {
            return BAD;
        }
        if (trail.height == 0) {
            return STATE;
        }
        graph.refresh();
        trail.markStep(holds(graph.tails[trail.onTop()], r));
        trail.pop();
        return pushMarked(r);
    }

    public int leave() {
        if (trail.height == 0) {
            return STATE;
        }
        trail.pop();
        return trail.deep;
    }

    public int ran(int what) {
        if (!within(what, 0, 6)) {
            return BAD;
        }
        if (trail.first == NOBODY) {
            return STATE;
        }
        switch (what) {
            case 0:
                return trail.deep;
            case 1:
                return trail.deepest;
            case 2:
                return trail.height;
            case 3:
                return trail.strange;
            case 4:
                return trail.tooOften;
            case 5:
                return trail.height == 0 ? NONE : trail.onTop();
            default:
                return stayedWithinDepth() ? 1 : 0;
        }
    }

    // ---- sheets

    public int sheet(int k, int lane, int n) {
        if (!isSheet(k) || !isLane(lane) || n > MOST_CELLS) {
            return BAD;
        }
        if (n < 0) {
            return FAULT - FAULT_SIZE;
        }
        sheets[k].makeNew(lane, n);
        return 1;
    }

    public int lay(int k, int i, int v) {
        if (!isSheet(k)) {
            return BAD;
        }
        Sheet sheet = sheets[k];
        if (sheet.isNothing()) {
            return FAULT - FAULT_NULL;
        }
        if (!within(i, 0, sheet.length - 1)) {
            return FAULT - FAULT_INDEX;
        }
        sheet.put(i, v);
        return 1;
    }

    public int scan(int k, int lane, int f, int n) {
        if (!isSheet(k) || !isLane(lane) || !within(n, 0, MOST_SCANNED)) {
            return BAD;
        }
        Sheet sheet = sheets[k];
        if (sheet.isNothing()) {
            return FAULT - FAULT_NULL;
        }
        if (sheet.lane != lane) {
            return FAULT - FAULT_CAST;
        }
        graph.outdate();
        for (int j = 0; j < n; j++) {
            int refusal = addFromSheet(sheet, f, j);
            if (refusal != ALLOWED) {
                removeFromSheet(sheet, f, j);
                return refusal;
            }
        }
        return calls.size;
    }

    public int count(int what) {
        switch (what) {
            case 0:
                return routines.size;
            case 1:
                return calls.size;
            case 2:
                return interrupts.size;
            case 3:
                return tasks.size;
            case 4:
                graph.refresh();
                return graph.howManyRings();
            case 5:
                return sheets[0].isNothing() ? NONE : sheets[0].length;
            default:
                return BAD;
        }
    }

    // ---- what the calls above share

    private boolean isRoutine(int r) {
        return within(r, 0, routines.size - 1);
    }

    private static boolean isPointer(int p) {
        return within(p, 0, POINTERS - 1);
    }

    private boolean isTask(int t) {
        return within(t, 0, tasks.size - 1);
    }

    private static boolean isSheet(int k) {
        return within(k, 0, SHEETS - 1);
    }

    private static boolean isLane(int lane) {
        return within(lane, 0, LANES - 1);
    }

    private static boolean within(int v, int low, int high) {
        return v >= low && v <= high;
    }

    private static boolean holds(int set, int i) {
        return (set >> i & 1) != 0;
    }

    /** The least of a set of ROUTINES; NONE of an empty one. */
    private static int leastOf(int set) {
        for (int r = 0; r < MOST_ROUTINES; r++) {
            if (holds(set, r)) {
                return r;
            }
        }
        return NONE;
    }

    private static int plus(int a, int b) {
        return a == ENDLESS || b == ENDLESS ? ENDLESS : a + b;
    }

    private static int greater(int a, int b) {
        if (a == ENDLESS || b == ENDLESS) {
            return ENDLESS;
        }
        return a > b ? a : b;
    }

    private static int kindOf(boolean pointer, boolean tail) {
        return (pointer ? POINTER_BIT : 0) + (tail ? TAIL_BIT : 0);
    }

    private boolean canBeCall(int a, int b, int kind) {
        if (!isRoutine(a) || !within(kind, 0, KINDS - 1)) {
            return false;
        }
        return (kind & POINTER_BIT) != 0 ? isPointer(b) : isRoutine(b);
    }

    private int refusalOfCall(int a, int b, int kind) {
        if (!canBeCall(a, b, kind)) {
            return BAD;
        }
        if (calls.has(a, b, kind)) {
            return STATE;
        }
        return calls.size >= MOST_CALLS ? FULL : ALLOWED;
    }

    private int addFromSheet(Sheet sheet, int f, int j) {
        if (!sheet.holdsCall(f, j)) {
            return FAULT - FAULT_INDEX;
        }
        int at = f + CELLS_OF_A_CALL * j;
        int a = sheet.cells[at], b = sheet.cells[at + 1], kind = sheet.cells[at + 2];
        int refusal = refusalOfCall(a, b, kind);
        if (refusal != ALLOWED) {
            return REFUSED_CALL + refusal;
        }
        calls.add(a, b, kind);
        return ALLOWED;
    }

    /** Takes back the first so many CALLS of a SHEET, all of which were added just before. */
    private void removeFromSheet(Sheet sheet, int f, int added) {
        for (int j = 0; j < added; j++) {
            int at = f + CELLS_OF_A_CALL * j;
            calls.remove(sheet.cells[at], sheet.cells[at + 1], sheet.cells[at + 2]);
        }
    }

    private int totalAsMeasured(int t) {
        return plus(depths.found[tasks.routines[t]], interrupts.topAbove(tasks.ranks[t], depths.found));
    }

    private int roomAsMeasured(int t) {
        return plus(totalAsMeasured(t), tasks.guards[t]);
    }

    private int totalWithout(int t, int unframed) {
        depths.measure(unframed);
        return totalAsMeasured(t);
    }

    private int shareRooms() {
        depths.measure(NOBODY);
        for (int t = 0; t < tasks.size; t++) {
            int room = roomAsMeasured(t);
            if (room == ENDLESS) {
                return ENDLESS;
            }
            sharing.rooms[t] = room;
        }
        return sharing.divide(tasks);
    }

    private int pushMarked(int r) {
        int turns = routines.turns[r];
        if (turns != 0 && trail.howOften(r) >= turns) {
            trail.tooOften++;
        }
        trail.push(r, routines.frames[r]);
        return trail.deep;
    }

    private boolean stayedWithinDepth() {
        depths.measure(NOBODY);
        int bound = depths.found[trail.first];
        return bound == ENDLESS || trail.deepest <= bound;
    }

    // ---- the parts

    private static final class Routines {
        final int[] frames = new int[MOST_ROUTINES];
        final int[] turns = new int[MOST_ROUTINES];
        int size;

        int add(int frame) {
            frames[size] = frame;
            size++;
            return size - 1;
        }

        int withoutTurns() {
            int set = 0;
            for (int r = 0; r < size; r++) {
                if (turns[r] == 0) {
                    set |= 1 << r;
                }
            }
            return set;
        }
    }

    private static final class Pointers {
        /** Of each POINTER the ROUTINES that it TAKES itself. */
        final int[] taken = new int[POINTERS];
        /** Of each POINTER the POINTERS that were told to flow into it. */
        final int[] sources = new int[POINTERS];

        final int[] goals = new int[POINTERS];

        void addTaken(int p, int r) {
            taken[p] |= 1 << r;
            spreadGoals();
        }

        void addSource(int p, int q) {
            sources[p] |= 1 << q;
            spreadGoals();
        }

        /** A round brings GOALS at least one POINTER on, so that as many rounds as POINTERS do. */
        private void spreadGoals() {
            for (int round = 0; round < POINTERS; round++) {
                for (int p = 0; p < POINTERS; p++) {
                    goals[p] |= taken[p] | unionOf(goals, sources[p]);
                }
            }
        }

        /** All that the sets of the chosen POINTERS hold. */
        static int unionOf(int[] sets, int chosen) {
            int all = 0;
            for (int q = 0; q < POINTERS; q++) {
                if (holds(chosen, q)) {
                    all |= sets[q];
                }
            }
            return all;
        }
    }

    private static final class Calls {
        /** By kind and by caller: the ROUTINES (or the POINTERS, for their kinds) that are called. */
        final int[][] called = new int[KINDS][MOST_ROUTINES];
        int size;

        boolean has(int a, int b, int kind) {
            return holds(called[kind][a], b);
        }

        void add(int a, int b, int kind) {
            called[kind][a] |= 1 << b;
            size++;
        }

        void remove(int a, int b, int kind) {
            called[kind][a] &= ~(1 << b);
            size--;
        }
    }

    /** Who calls and REACHES whom, drawn from the CALLS and GOALS anew once one of them has changed. */
    private static final class Graph {
        private final Routines routines;
        private final Pointers pointers;
        private final Calls calls;
        private boolean outdated = true;

        final int[] plain = new int[MOST_ROUTINES];
        final int[] tails = new int[MOST_ROUTINES];
        final int[] reached = new int[MOST_ROUTINES];
        final int[] together = new int[MOST_ROUTINES];
        /** All ROUTINES that are of a RING. */
        int ringed;
        /** The least of those that are TOGETHER, each behind all others that it REACHES. */
        final int[] leaders = new int[MOST_ROUTINES];
        int leading;

        Graph(Routines routines, Pointers pointers, Calls calls) {
            this.routines = routines;
            this.pointers = pointers;
            this.calls = calls;
        }

        void outdate() {
            outdated = true;
        }

        void refresh() {
            if (!outdated) {
                return;
            }
            outdated = false;
            drawCalls();
            closeReach();
            gatherTogether();
            markRings();
            orderLeaders();
        }

        int selfAndReached(int r) {
            return reached[r] | 1 << r;
        }

        int howManyReach(int r) {
            int number = 0;
            for (int a = 0; a < routines.size; a++) {
                if (holds(reached[a], r)) {
                    number++;
                }
            }
            return number;
        }

        int howManyRings() {
            int number = 0;
            for (int i = 0; i < leading; i++) {
                if (holds(ringed, leaders[i])) {
                    number++;
                }
            }
            return number;
        }

        private void drawCalls() {
            int[] goals = pointers.goals;
            int[][] called = calls.called;
            for (int a = 0; a < routines.size; a++) {
                plain[a] = called[0][a] | Pointers.unionOf(goals, called[POINTER_BIT][a]);
                tails[a] = called[TAIL_BIT][a] | Pointers.unionOf(goals, called[POINTER_BIT | TAIL_BIT][a]);
                reached[a] = plain[a] | tails[a];
            }
        }

        /** By ways whose inner ROUTINES are below a bound that rises to all of them. */
        private void closeReach() {
            for (int between = 0; between < routines.size; between++) {
                for (int a = 0; a < routines.size; a++) {
                    if (holds(reached[a], between)) {
                        reached[a] |= reached[between];
                    }
                }
            }
        }

        private void gatherTogether() {
            for (int a = 0; a < routines.size; a++) {
                together[a] = 1 << a;
                for (int b = 0; b < routines.size; b++) {
                    if (holds(reached[a], b) && holds(reached[b], a)) {
                        together[a] |= 1 << b;
                    }
                }
            }
        }

        private void markRings() {
            ringed = 0;
            for (int a = 0; a < routines.size; a++) {
                if ((plain[a] & together[a]) != 0) {
                    ringed |= together[a];
                }
            }
        }

        /**
         * Counted with itself, a ROUTINE REACHES more than each one that it REACHES and is not
         * TOGETHER with. So to go by that number puts what is called ahead of its callers.
         */
        private void orderLeaders() {
            leading = 0;
            for (int number = 1; number <= routines.size; number++) {
                for (int r = 0; r < routines.size; r++) {
                    if (leastOf(together[r]) == r && Integer.bitCount(selfAndReached(r)) == number) {
                        leaders[leading] = r;
                        leading++;
                    }
                }
            }
        }
    }

    /** DEPTHS of all ROUTINES, as they are or as they were if one of them had no FRAME. */
    private static final class Depths {
        private final Routines routines;
        private final Graph graph;
        private int unframed = NOBODY;
        final int[] found = new int[MOST_ROUTINES];

        Depths(Routines routines, Graph graph) {
            this.routines = routines;
            this.graph = graph;
        }

        void measure(int without) {
            graph.refresh();
            unframed = without;
            for (int i = 0; i < graph.leading; i++) {
                int leader = graph.leaders[i];
                int set = graph.together[leader];
                spread(set, holds(graph.ringed, leader) ? depthOfRing(set) : depthOfTails(set));
            }
        }

        /** What follows on THE WAY, after measure(NOBODY); NONE at its end. Not for RINGS. */
        int nextOnWay(int r) {
            int whole = found[r];
            if (depthOfItself(r) < whole) {
                return leastThatTells(graph.together[r], whole);
            }
            int next = leastThatHas(graph.plain[r], whole - frameOf(r));
            if (next != NONE) {
                return next;
            }
            return leastThatHas(graph.tails[r] & ~graph.together[r], whole);
        }

        private void spread(int set, int depth) {
            for (int r = 0; r < routines.size; r++) {
                if (holds(set, r)) {
                    found[r] = depth;
                }
            }
        }

        private int depthOfRing(int ring) {
            int turned = 0;
            int beyond = 0;
            for (int r = 0; r < routines.size; r++) {
                if (holds(ring, r)) {
                    if (routines.turns[r] == 0) {
                        return ENDLESS;
                    }
                    turned += frameOf(r) * routines.turns[r];
                    beyond = greater(beyond, greatestOf((graph.plain[r] | graph.tails[r]) & ~ring));
                }
            }
            return plus(turned, beyond);
        }

        private int depthOfTails(int set) {
            int most = 0;
            for (int r = 0; r < routines.size; r++) {
                if (holds(set, r)) {
                    most = greater(most, depthOfItself(r));
                }
            }
            return most;
        }

        /** What DEPTH tells of a ROUTINE that is of no RING, without those TOGETHER with it. */
        private int depthOfItself(int r) {
            int above = plus(frameOf(r), greatestOf(graph.plain[r]));
            return greater(above, greatestOf(graph.tails[r] & ~graph.together[r]));
        }

        private int frameOf(int r) {
            return r == unframed ? 0 : routines.frames[r];
        }

        private int greatestOf(int set) {
            int most = 0;
            for (int r = 0; r < routines.size; r++) {
                if (holds(set, r)) {
                    most = greater(most, found[r]);
                }
            }
            return most;
        }

        private int leastThatHas(int set, int depth) {
            for (int r = 0; r < routines.size; r++) {
                if (holds(set, r) && found[r] == depth) {
                    return r;
                }
            }
            return NONE;
        }

        private int leastThatTells(int set, int depth) {
            for (int r = 0; r < routines.size; r++) {
                if (holds(set, r) && depthOfItself(r) == depth) {
                    return r;
                }
            }
            return NONE;
        }
    }

    private static final class Interrupts {
        private final int[] ranks = new int[MOST_INTERRUPTS];
        private final int[] routines = new int[MOST_INTERRUPTS];
        private final int[] saved = new int[MOST_INTERRUPTS];
        int size;

        int add(int rank, int routine, int savedBytes) {
            ranks[size] = rank;
            routines[size] = routine;
            saved[size] = savedBytes;
            size++;
            return size - 1;
        }

        int topAbove(int rank, int[] depths) {
            int sum = 0;
            for (int higher = rank + 1; higher <= MOST_RANK; higher++) {
                sum = plus(sum, greatestAt(higher, depths));
            }
            return sum;
        }

        private int greatestAt(int rank, int[] depths) {
            int most = 0;
            for (int i = 0; i < size; i++) {
                if (ranks[i] == rank) {
                    most = greater(most, plus(saved[i], depths[routines[i]]));
                }
            }
            return most;
        }
    }

    private static final class Tasks {
        final int[] routines = new int[MOST_TASKS];
        final int[] ranks = new int[MOST_TASKS];
        final int[] guards = new int[MOST_TASKS];
        final int[] apart = new int[MOST_TASKS];
        int size;

        int add(int routine, int rank, int guard) {
            routines[size] = routine;
            ranks[size] = rank;
            guards[size] = guard;
            size++;
            return size - 1;
        }

        void setApart(int t, int u, boolean on) {
            if (on) {
                apart[t] |= 1 << u;
                apart[u] |= 1 << t;
            } else {
                apart[t] &= ~(1 << u);
                apart[u] &= ~(1 << t);
            }
        }
    }

    /** Looks through all ways to put TASKS in groups. */
    private static final class Sharing {
        /** ROOMS of the TASKS, set by who asks. */
        final int[] rooms = new int[MOST_TASKS];
        /** The groups of the TASKS in the way that was found. */
        final int[] kept = new int[MOST_TASKS];
        private final int[] tried = new int[MOST_TASKS];
        private final int[] members = new int[MOST_TASKS];
        private final int[] widths = new int[MOST_TASKS];
        private int least;

        int divide(Tasks tasks) {
            // A group for each TASK alone is a way too, so the way that is wanted has less than this.
            least = 1;
            for (int t = 0; t < tasks.size; t++) {
                least += rooms[t];
            }
            place(tasks, 0, 0, 0);
            return least;
        }

        /**
         * Puts TASK t and those behind it. Lesser groups are tried first and only a lesser sum is
         * kept, so of equal sums the way that the document wants stays.
         */
        private void place(Tasks tasks, int t, int groups, int sum) {
            if (sum >= least) {
                return;
            }
            if (t >= tasks.size) {
                keep(sum);
                return;
            }
            for (int g = 0; g <= groups && g < MOST_TASKS; g++) {
                if ((members[g] & ~tasks.apart[t]) == 0) {
                    int was = widths[g];
                    widths[g] = Math.max(was, rooms[t]);
                    members[g] |= 1 << t;
                    tried[t] = g;
                    place(tasks, t + 1, Math.max(groups, g + 1), sum - was + widths[g]);
                    members[g] &= ~(1 << t);
                    widths[g] = was;
                }
            }
        }

        private void keep(int sum) {
            least = sum;
            for (int t = 0; t < MOST_TASKS; t++) {
                kept[t] = tried[t];
            }
        }
    }

    /** The latest RUN; it has ended when nothing stands there. */
    private static final class Trail {
        private final int[] standing = new int[MOST_STANDING];
        private final int[] framed = new int[MOST_STANDING];
        int height, deep, deepest, strange, tooOften;
        /** NOBODY: there was no RUN. */
        int first = NOBODY;

        void begin(int r) {
            height = 0;
            deep = 0;
            deepest = 0;
            strange = 0;
            tooOften = 0;
            first = r;
        }

        void push(int r, int frame) {
            standing[height] = r;
            framed[height] = frame;
            height++;
            deep += frame;
            deepest = Math.max(deepest, deep);
        }

        void pop() {
            height--;
            deep -= framed[height];
        }

        int onTop() {
            return standing[height - 1];
        }

        void markStep(boolean called) {
            if (!called) {
                strange++;
            }
        }

        int howOften(int r) {
            int number = 0;
            for (int i = 0; i < height; i++) {
                if (standing[i] == r) {
                    number++;
                }
            }
            return number;
        }
    }

    private static final class Sheet {
        private static final int NOTHING = -1;

        final int[] cells = new int[MOST_CELLS];
        int lane;
        int length = NOTHING;

        boolean isNothing() {
            return length == NOTHING;
        }

        void makeNew(int newLane, int newLength) {
            lane = newLane;
            length = newLength;
            for (int i = 0; i < MOST_CELLS; i++) {
                cells[i] = 0;
            }
        }

        void put(int i, int v) {
            if (lane == 0) {
                cells[i] = (byte) v;
            } else if (lane == 1) {
                cells[i] = (short) v;
            } else {
                cells[i] = v;
            }
        }

        /** Nothing is added to f here, as f may be any int and the sum could wrap around. */
        boolean holdsCall(int f, int j) {
            return f >= 0 && f <= length - CELLS_OF_A_CALL * (j + 1);
        }
    }
}
