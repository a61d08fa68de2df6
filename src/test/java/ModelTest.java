import java.lang.reflect.Method;
import java.util.ArrayList;
import java.util.Arrays;
import java.util.List;
import java.util.Random;

/**
 * Long runs of calls on the class and on the Model side by side. The seeds are fixed, so that each
 * time the same calls are made.
 */
public final class ModelTest {
    private static final int OBJECTS = 1500, CALLS = 512;
    private static final String[] NAMES = {
        "routine", "frame", "turns", "call", "cut", "take", "flow", "goals", "about", "depth", "way",
        "endless", "interrupt", "task", "total", "apart", "shared", "group", "saves", "best", "run",
        "enter", "over", "leave", "ran", "sheet", "lay", "scan", "count",
    };
    /** How often each call comes, beside the others. */
    private static final int[] WEIGHTS = {
        8, 8, 14, 24, 10, 5, 4, 3, 10, 10, 14,
        6, 5, 5, 8, 8, 4, 6, 6, 3, 3,
        12, 8, 7, 10, 3, 14, 8, 5,
    };
    private static final int[] ODD = {
        -1, -2, 20, 21, 60, 61, 100, 101, 500, 501, 65536, Integer.MIN_VALUE, Integer.MAX_VALUE,
    };
    private static final Method[] OF_CLASS = callsOf(StackDepths.class), OF_MODEL = callsOf(Model.class);

    private final Random random;
    private final int routines, frames, tails, turned, downward;
    private final boolean climbing;
    private final List<String> told = new ArrayList<>();
    /** How often each name was answered by a refusal of each kind, and by none. */
    private static final int[][] met = new int[NAMES.length][25];

    private ModelTest(long seed) {
        random = new Random(seed);
        routines = 1 + random.nextInt(20);
        frames = new int[] {2, 4, 30, 501}[random.nextInt(4)];
        tails = new int[] {20, 50, 80, 100}[random.nextInt(4)];
        turned = new int[] {10, 60, 95}[random.nextInt(3)];
        downward = new int[] {0, 70, 97, 100}[random.nextInt(4)];
        climbing = random.nextInt(5) == 0;
    }

    public static void main(String[] args) {
        int wrong = 0;
        for (int seed = 1; seed <= OBJECTS && wrong < 5; seed++) {
            if (!new ModelTest(seed).agrees(seed)) wrong++;
        }
        System.out.println("ModelTest: " + OBJECTS + " objects, " + wrong + " not as due");
        wrong += unmet();
        if (wrong != 0) System.exit(1);
    }

    /** The runs must come upon every refusal that the document names, or they would hold little. */
    private static int unmet() {
        String[] due = {
            "routine -1 -3 0", "frame -1 0", "turns -1 0", "call -1 -2 -3 0", "cut -1 -2 0", "take -1 -2 0",
            "flow -1 -2 0", "goals -1 0", "about -1 0", "depth -1 -5 0", "way -1 -2 -4 0", "endless -1 -4 0",
            "interrupt -1 -3 0", "task -1 -3 0", "total -1 -5 0", "apart -1 0", "shared -5 0", "group -1 -5 0",
            "saves -1 -5 0", "best -1 -4 -5 0", "run -1 0", "enter -1 -2 -3 0", "over -1 -2 0", "leave -2 0",
            "ran -1 -2 -4 0", "sheet -1 -14 0", "lay -1 -11 -12 0", "scan -1 -11 -12 -13 -21 -22 -23 0",
            "count -1 -4 0",
        };
        int unmet = 0;
        for (int op = 0; op < due.length; op++) {
            String[] words = due[op].split(" ");
            for (int i = 1; i < words.length; i++) {
                if (met[op][-Integer.parseInt(words[i])] == 0) {
                    unmet++;
                    System.out.println("ModelTest: no run met " + words[0] + " answered by " + words[i]);
                }
            }
        }
        return unmet;
    }

    private boolean agrees(long seed) {
        StackDepths x = new StackDepths();
        Model m = new Model();
        for (int i = 0; i < CALLS; i++) {
            int op = i < routines ? 0 : chosen();
            int[] v = arguments(op, m.count(0), m.count(3));
            told.add(NAMES[op] + Arrays.toString(v));
            int got = asked(x, OF_CLASS[op], v), due = asked(m, OF_MODEL[op], v);
            if (got != due) {
                System.out.println("ModelTest: seed " + seed + ", call " + i + ": " + NAMES[op]
                        + Arrays.toString(v) + " answered " + got + ", due is " + due);
                System.out.println("  " + told.subList(Math.max(0, i - 40), i));
                return false;
            }
            met[op][got < 0 ? -got : 0]++;
        }
        return true;
    }

    private int chosen() {
        int sum = 0;
        for (int w : WEIGHTS) sum += w;
        int at = random.nextInt(sum), op = 0;
        while (at >= WEIGHTS[op]) at -= WEIGHTS[op++];
        if (NAMES[op].equals("routine") && random.nextInt(8) != 0) return op("call");
        boolean falling = NAMES[op].equals("leave") || NAMES[op].equals("run") && percent(90);
        return climbing && falling ? op("enter") : op;
    }

    private static int op(String name) {
        return List.of(NAMES).indexOf(name);
    }

    private boolean percent(int p) {
        return random.nextInt(100) < p;
    }

    /** One of 0 to n - 1, rarely something else. */
    private int about(int n) {
        if (percent(3)) return ODD[random.nextInt(ODD.length)];
        return random.nextInt(Math.max(1, percent(3) ? n + 1 : n));
    }

    private int bit(int p) {
        return percent(p) ? 1 : 0;
    }

    private int[] arguments(int op, int n, int tasks) {
        return switch (NAMES[op]) {
            case "routine" -> new int[] {about(frames)};
            case "frame" -> new int[] {about(n), about(frames)};
            case "turns" -> new int[] {about(n), percent(turned) ? 1 + random.nextInt(20) : about(4)};
            case "call" -> callArguments(n);
            case "cut" -> percent(60) ? callArguments(n) : new int[] {about(n), about(n), bit(20), bit(tails)};
            case "take" -> new int[] {about(8), about(n)};
            case "flow" -> new int[] {about(8), about(8)};
            case "goals" -> new int[] {about(8)};
            case "about" -> new int[] {about(n), about(6)};
            case "depth", "endless", "run", "enter", "over" -> new int[] {about(n)};
            case "way" -> new int[] {about(n), about(6)};
            case "interrupt" -> new int[] {1 + about(7), about(n), about(8)};
            case "task" -> new int[] {about(n), about(8), about(4)};
            case "total" -> new int[] {about(tasks), about(4)};
            case "apart" -> new int[] {about(tasks), about(tasks), bit(75)};
            case "group", "best" -> new int[] {about(tasks)};
            case "saves" -> new int[] {about(tasks), about(n)};
            case "ran" -> new int[] {about(7)};
            case "sheet" -> new int[] {about(4), about(3), percent(50) ? about(13) : about(61)};
            case "lay" -> new int[] {about(4), about(12), about(n) + (percent(10) ? 256 : 0)};
            case "scan" -> new int[] {about(4), about(3), about(8), about(4)};
            case "count" -> new int[] {about(6)};
            default -> new int[0];
        };
    }

    private int[] callArguments(int n) {
        int a = about(n), b = about(n);
        if (percent(25)) return new int[] {a, about(8), 1, bit(tails)};
        if (percent(downward)) return new int[] {Math.max(a, b), Math.min(a, b), 0, bit(tails)};
        return new int[] {a, b, 0, bit(tails)};
    }

    /** By name, as the class and the Model have the same calls but no type in common. */
    private static Method[] callsOf(Class<?> type) {
        Method[] methods = new Method[NAMES.length];
        for (Method method : type.getDeclaredMethods()) {
            int op = List.of(NAMES).indexOf(method.getName());
            if (op >= 0) methods[op] = method;
        }
        return methods;
    }

    private static int asked(Object x, Method method, int[] v) {
        Class<?>[] types = method.getParameterTypes();
        Object[] values = new Object[types.length];
        for (int i = 0; i < types.length; i++) {
            values[i] = types[i] == boolean.class ? (Object) (v[i] == 1) : (Object) v[i];
        }
        try {
            return (int) method.invoke(x, values);
        } catch (ReflectiveOperationException thrown) {
            throw new IllegalStateException(method + " threw", thrown);
        }
    }
}
