import java.lang.reflect.Array;
import java.util.ArrayList;
import java.util.Arrays;
import java.util.HashMap;
import java.util.LinkedHashSet;
import java.util.List;
import java.util.Map;
import java.util.Set;
import java.util.TreeSet;

/**
 * The document's words told once more, with sets and lists and without a thought for speed, so that
 * the class can be held beside it. Faults of sheets are here what the machine itself finds.
 */
final class Model {
    private static final int BAD = -1, STATE = -2, FULL = -3, NONE = -4, ENDLESS = -5;
    private static final long INFINITE = 1L << 40;

    private record Call(int a, int b, boolean pointer, boolean tail) {}

    private record Step(int from, int to, boolean tail) {}

    private record Interrupt(int rank, int routine, int saved) {}

    private record Task(int routine, int rank, int guard) {}

    private record Standing(int routine, int frame) {}

    private final List<Integer> frames = new ArrayList<>();
    private final List<Integer> turns = new ArrayList<>();
    private final Set<Call> calls = new LinkedHashSet<>();
    private final List<Set<Integer>> taken = new ArrayList<>();
    private final List<Set<Integer>> flows = new ArrayList<>();
    private final List<Interrupt> interrupts = new ArrayList<>();
    private final List<Task> tasks = new ArrayList<>();
    private final Set<Set<Integer>> apart = new LinkedHashSet<>();
    private final List<Standing> run = new ArrayList<>();
    private int first = -1, most, strange, often;
    private final Object[] sheets = new Object[4];

    Model() {
        for (int p = 0; p < 8; p++) {
            taken.add(new TreeSet<>());
            flows.add(new TreeSet<>());
        }
    }

    private boolean none(int r) {
        return r < 0 || r >= frames.size();
    }

    private static boolean out(int v, int low, int high) {
        return v < low || v > high;
    }

    int routine(int frame) {
        if (out(frame, 0, 500)) return BAD;
        if (frames.size() == 20) return FULL;
        frames.add(frame);
        turns.add(0);
        return frames.size() - 1;
    }

    int frame(int r, int v) {
        return none(r) || out(v, 0, 500) ? BAD : frames.set(r, v);
    }

    int turns(int r, int v) {
        return none(r) || out(v, 0, 20) ? BAD : turns.set(r, v);
    }

    private boolean noCall(int a, int b, boolean pointer) {
        return none(a) || (pointer ? out(b, 0, 7) : none(b));
    }

    int call(int a, int b, boolean pointer, boolean tail) {
        if (noCall(a, b, pointer)) return BAD;
        Call call = new Call(a, b, pointer, tail);
        if (calls.contains(call)) return STATE;
        if (calls.size() == 60) return FULL;
        calls.add(call);
        return calls.size();
    }

    int cut(int a, int b, boolean pointer, boolean tail) {
        if (noCall(a, b, pointer)) return BAD;
        return calls.remove(new Call(a, b, pointer, tail)) ? calls.size() : STATE;
    }

    int take(int p, int r) {
        if (out(p, 0, 7) || none(r)) return BAD;
        return taken.get(p).add(r) ? 1 : STATE;
    }

    int flow(int p, int q) {
        if (out(p, 0, 7) || out(q, 0, 7)) return BAD;
        return p != q && flows.get(p).add(q) ? 1 : STATE;
    }

    private void gather(int p, Set<Integer> seen, Set<Integer> goals) {
        if (!seen.add(p)) return;
        goals.addAll(taken.get(p));
        for (int q : flows.get(p)) gather(q, seen, goals);
    }

    private Set<Integer> goalsOf(int p) {
        Set<Integer> goals = new TreeSet<>();
        gather(p, new TreeSet<>(), goals);
        return goals;
    }

    int goals(int p) {
        if (out(p, 0, 7)) return BAD;
        int sum = 0;
        for (int r : goalsOf(p)) sum += (int) Math.pow(2, r);
        return sum;
    }

    /** The CALLS, those by POINTERS as one to each GOAL. */
    private List<Step> steps() {
        List<Step> steps = new ArrayList<>();
        for (Call call : calls) {
            if (!call.pointer) {
                steps.add(new Step(call.a, call.b, call.tail));
            } else {
                for (int goal : goalsOf(call.b)) steps.add(new Step(call.a, goal, call.tail));
            }
        }
        return steps;
    }

    /** A picture of who reaches whom, with what is found on it. */
    private final class Picture {
        final List<Step> steps = steps();
        final List<Set<Integer>> reached = new ArrayList<>();
        final Map<Integer, Long> depths = new HashMap<>();
        final int unframed;

        Picture(int unframed) {
            this.unframed = unframed;
            for (int r = 0; r < frames.size(); r++) {
                Set<Integer> seen = new TreeSet<>();
                walk(r, seen);
                reached.add(seen);
            }
        }

        private void walk(int r, Set<Integer> seen) {
            for (Step step : steps) {
                if (step.from == r && seen.add(step.to)) walk(step.to, seen);
            }
        }

        boolean together(int a, int b) {
            return a == b || reached.get(a).contains(b) && reached.get(b).contains(a);
        }

        List<Integer> all(int r) {
            List<Integer> all = new ArrayList<>();
            for (int s = 0; s < frames.size(); s++) if (together(r, s)) all.add(s);
            return all;
        }

        boolean ringed(int r) {
            return steps.stream().anyMatch(s -> !s.tail && together(r, s.from) && together(r, s.to));
        }

        long frameOf(int r) {
            return r == unframed ? 0 : frames.get(r);
        }

        long depth(int r) {
            int least = all(r).get(0);
            Long known = depths.get(least);
            if (known == null) {
                known = ringed(r) ? ringDepth(r) : all(r).stream().mapToLong(this::itself).max().getAsLong();
                depths.put(least, known);
            }
            return known;
        }

        private long ringDepth(int r) {
            long sum = 0, beyond = 0;
            for (int s : all(r)) {
                sum += turns.get(s) == 0 ? INFINITE : frameOf(s) * turns.get(s);
            }
            for (Step step : steps) {
                if (together(r, step.from) && !together(r, step.to)) beyond = Math.max(beyond, depth(step.to));
            }
            return sum + beyond;
        }

        long itself(int r) {
            long above = 0, aside = 0;
            for (Step step : steps) {
                if (step.from == r && !step.tail) above = Math.max(above, depth(step.to));
                if (step.from == r && step.tail && !together(r, step.to)) aside = Math.max(aside, depth(step.to));
            }
            return Math.max(frameOf(r) + above, aside);
        }

        int next(int r) {
            if (itself(r) < depth(r)) {
                for (int s : all(r)) if (itself(s) == depth(r)) return s;
            }
            for (int s = 0; s < frames.size(); s++) {
                if (steps.contains(new Step(r, s, false)) && depth(s) + frames.get(r) == depth(r)) return s;
            }
            for (int s = 0; s < frames.size(); s++) {
                if (steps.contains(new Step(r, s, true)) && !together(r, s) && depth(s) == depth(r)) return s;
            }
            return NONE;
        }

        long top(int t) {
            long sum = 0;
            for (int rank = tasks.get(t).rank + 1; rank <= 7; rank++) {
                long greatest = 0;
                for (Interrupt i : interrupts) {
                    if (i.rank == rank) greatest = Math.max(greatest, i.saved + depth(i.routine));
                }
                sum += greatest;
            }
            return sum;
        }

        long total(int t) {
            return depth(tasks.get(t).routine) + top(t);
        }

        long room(int t) {
            return total(t) + tasks.get(t).guard;
        }
    }

    private static int told(long depth) {
        return depth >= INFINITE ? ENDLESS : (int) depth;
    }

    int about(int r, int what) {
        if (none(r) || out(what, 0, 5)) return BAD;
        Picture now = new Picture(-1);
        return switch (what) {
            case 0 -> frames.get(r);
            case 1 -> turns.get(r);
            case 2 -> now.ringed(r) ? 1 : 0;
            case 3 -> now.all(r).get(0);
            case 4 -> now.reached.get(r).size();
            default -> (int) now.reached.stream().filter(s -> s.contains(r)).count();
        };
    }

    int depth(int r) {
        return none(r) ? BAD : told(new Picture(-1).depth(r));
    }

    private boolean meetsRing(Picture now, int r) {
        return now.ringed(r) || now.reached.get(r).stream().anyMatch(now::ringed);
    }

    int way(int r, int i) {
        if (none(r) || i < 0) return BAD;
        Picture now = new Picture(-1);
        if (meetsRing(now, r)) return STATE;
        List<Integer> way = new ArrayList<>();
        for (int at = r; at != NONE; at = now.next(at)) way.add(at);
        return i < way.size() ? way.get(i) : NONE;
    }

    int endless(int r) {
        if (none(r)) return BAD;
        Picture now = new Picture(-1);
        Set<Integer> from = new TreeSet<>(now.reached.get(r));
        from.add(r);
        for (int s : from) if (now.ringed(s) && turns.get(s) == 0) return s;
        return NONE;
    }

    int interrupt(int rank, int r, int saved) {
        if (out(rank, 1, 7) || none(r) || out(saved, 0, 100)) return BAD;
        if (interrupts.size() == 8) return FULL;
        interrupts.add(new Interrupt(rank, r, saved));
        return interrupts.size() - 1;
    }

    int task(int r, int rank, int guard) {
        if (none(r) || out(rank, 0, 7) || out(guard, 0, 100)) return BAD;
        if (tasks.size() == 6) return FULL;
        tasks.add(new Task(r, rank, guard));
        return tasks.size() - 1;
    }

    private boolean noTask(int t) {
        return t < 0 || t >= tasks.size();
    }

    int total(int t, int what) {
        if (noTask(t) || out(what, 0, 3)) return BAD;
        Picture now = new Picture(-1);
        return told(switch (what) {
            case 0 -> now.depth(tasks.get(t).routine);
            case 1 -> now.top(t);
            case 2 -> now.total(t);
            default -> now.room(t);
        });
    }

    int apart(int t, int u, boolean on) {
        if (noTask(t) || noTask(u) || t == u) return BAD;
        Set<Integer> pair = Set.of(t, u);
        return (on ? !apart.add(pair) : apart.remove(pair)) ? 1 : 0;
    }

    private int[] numberedByFirst(int[] labels) {
        List<Integer> met = new ArrayList<>();
        int[] groups = new int[labels.length];
        for (int t = 0; t < labels.length; t++) {
            if (!met.contains(labels[t])) met.add(labels[t]);
            groups[t] = met.indexOf(labels[t]);
        }
        return groups;
    }

    private long sumOf(int[] groups, long[] rooms) {
        long[] greatest = new long[groups.length];
        for (int t = 0; t < groups.length; t++) {
            for (int u = 0; u < t; u++) {
                if (groups[t] == groups[u] && !apart.contains(Set.of(t, u))) return -1;
            }
            greatest[groups[t]] = Math.max(greatest[groups[t]], rooms[t]);
        }
        long sum = 0;
        for (long g : greatest) sum += g;
        return sum;
    }

    /** The least sum and behind it the groups, or nothing, where a ROOM is ENDLESS. */
    private int[] sharing() {
        Picture now = new Picture(-1);
        int n = tasks.size();
        long[] rooms = new long[n];
        for (int t = 0; t < n; t++) {
            rooms[t] = now.room(t);
            if (rooms[t] >= INFINITE) return null;
        }
        long least = Long.MAX_VALUE;
        int[] found = null;
        int[] labels = new int[n];
        // Every labelling at all; labels of t go no higher than t, as no more groups can stand by then.
        while (true) {
            int[] groups = numberedByFirst(labels);
            long sum = sumOf(groups, rooms);
            if (sum >= 0 && (sum < least || sum == least && Arrays.compare(groups, found) < 0)) {
                least = sum;
                found = groups;
            }
            int t = 0;
            while (t < n && labels[t] == t) labels[t++] = 0;
            if (t == n) break;
            labels[t]++;
        }
        int[] answer = new int[n + 1];
        answer[0] = (int) least;
        System.arraycopy(found, 0, answer, 1, n);
        return answer;
    }

    int shared() {
        int[] sharing = sharing();
        return sharing == null ? ENDLESS : sharing[0];
    }

    int group(int t) {
        if (noTask(t)) return BAD;
        int[] sharing = sharing();
        return sharing == null ? ENDLESS : sharing[t + 1];
    }

    int saves(int t, int r) {
        if (noTask(t) || none(r)) return BAD;
        long total = new Picture(-1).total(t);
        return total >= INFINITE ? ENDLESS : (int) (total - new Picture(r).total(t));
    }

    int best(int t) {
        if (noTask(t)) return BAD;
        int best = NONE, most = 0;
        for (int r = 0; r < frames.size(); r++) {
            int saves = saves(t, r);
            if (saves == ENDLESS) return ENDLESS;
            if (saves > most) {
                most = saves;
                best = r;
            }
        }
        return best;
    }

    private int deep() {
        return run.stream().mapToInt(Standing::frame).sum();
    }

    private int come(int r) {
        run.add(new Standing(r, frames.get(r)));
        most = Math.max(most, deep());
        return deep();
    }

    private int stepTo(int r, boolean tail) {
        int top = run.get(run.size() - 1).routine;
        if (!steps().contains(new Step(top, r, tail))) strange++;
        if (tail) run.remove(run.size() - 1);
        int answer = come(r);
        long there = run.stream().filter(s -> s.routine == r).count();
        if (turns.get(r) > 0 && there > turns.get(r)) often++;
        return answer;
    }

    int run(int r) {
        if (none(r)) return BAD;
        run.clear();
        first = r;
        most = 0;
        strange = 0;
        often = 0;
        return come(r);
    }

    int enter(int r) {
        if (none(r)) return BAD;
        if (run.isEmpty()) return STATE;
        return run.size() == 40 ? FULL : stepTo(r, false);
    }

    int over(int r) {
        if (none(r)) return BAD;
        return run.isEmpty() ? STATE : stepTo(r, true);
    }

    int leave() {
        if (run.isEmpty()) return STATE;
        run.remove(run.size() - 1);
        return deep();
    }

    int ran(int what) {
        if (out(what, 0, 6)) return BAD;
        if (first < 0) return STATE;
        return switch (what) {
            case 0 -> deep();
            case 1 -> most;
            case 2 -> run.size();
            case 3 -> strange;
            case 4 -> often;
            case 5 -> run.isEmpty() ? NONE : run.get(run.size() - 1).routine;
            default -> most <= new Picture(-1).depth(first) ? 1 : 0;
        };
    }

    int sheet(int k, int lane, int n) {
        if (out(k, 0, 3) || out(lane, 0, 2) || n > 60) return BAD;
        try {
            Object row = lane == 0 ? new byte[n] : lane == 1 ? new short[n] : new int[n];
            sheets[k] = row;
            return 1;
        } catch (NegativeArraySizeException size) {
            return -10 - 4;
        }
    }

    int lay(int k, int i, int v) {
        if (out(k, 0, 3)) return BAD;
        try {
            if (sheets[k] instanceof byte[] row) row[i] = (byte) v;
            else if (sheets[k] instanceof short[] row) row[i] = (short) v;
            else ((int[]) sheets[k])[i] = v;
            return 1;
        } catch (NullPointerException nothing) {
            return -10 - 1;
        } catch (ArrayIndexOutOfBoundsException index) {
            return -10 - 2;
        }
    }

    private int[] cellsAs(int k, int lane) {
        Object row = sheets[k];
        row.hashCode();
        int length = lane == 0 ? ((byte[]) row).length : lane == 1 ? ((short[]) row).length : ((int[]) row).length;
        int[] cells = new int[length];
        for (int i = 0; i < length; i++) cells[i] = Array.getInt(row, i);
        return cells;
    }

    int scan(int k, int lane, int f, int n) {
        if (out(k, 0, 3) || out(lane, 0, 2) || out(n, 0, 20)) return BAD;
        Set<Call> before = new LinkedHashSet<>(calls);
        int answer = scanned(k, lane, f, n);
        if (answer < 0) {
            calls.clear();
            calls.addAll(before);
        }
        return answer;
    }

    private int scanned(int k, int lane, int f, int n) {
        try {
            int[] cells = cellsAs(k, lane);
            for (int j = 0; j < n; j++) {
                int a = cells[f + 3 * j], b = cells[f + 3 * j + 1], third = cells[f + 3 * j + 2];
                int answer = out(third, 0, 3) ? BAD : call(a, b, third >= 2, third % 2 == 1);
                if (answer < 0) return -20 + answer;
            }
            return calls.size();
        } catch (NullPointerException nothing) {
            return -10 - 1;
        } catch (ArrayIndexOutOfBoundsException index) {
            return -10 - 2;
        } catch (ClassCastException cast) {
            return -10 - 3;
        }
    }

    int count(int what) {
        if (out(what, 0, 5)) return BAD;
        if (what == 4) {
            Picture now = new Picture(-1);
            int rings = 0;
            for (int r = 0; r < frames.size(); r++) if (now.ringed(r) && now.all(r).get(0) == r) rings++;
            return rings;
        }
        if (what == 5) return sheets[0] == null ? NONE : Array.getLength(sheets[0]);
        return List.of(frames.size(), calls.size(), interrupts.size(), tasks.size()).get(what);
    }
}
