import java.lang.reflect.InvocationTargetException;
import java.lang.reflect.Method;
import java.lang.reflect.Modifier;
import java.util.ArrayList;
import java.util.Arrays;
import java.util.Comparator;
import java.util.List;
import java.util.Random;

/**
 * No call throws, for any numbers in any state, far beyond the 512 calls that an object is used for.
 * The seeds are fixed, so that each time the same calls are made.
 */
public final class NeverThrowsTest {
    private static final int OBJECTS = 300, CALLS = 2000;
    private static final int[] NUMBERS = {
        0, 0, 0, 1, 1, 1, 2, 2, 3, 3, 4, 5, 6, 7, 8, 9, 19, 20, 21, 31, 32, 33, 39, 40, 57, 58, 59, 60, 61, 63, 64,
        100, 101, 127, 128, 255, 256, 500, 501, 32767, 32768, 65535, 65536, -1, -2, -3, -10, -32, -128, -32768,
        Integer.MIN_VALUE, Integer.MIN_VALUE + 1, Integer.MAX_VALUE - 2, Integer.MAX_VALUE - 1, Integer.MAX_VALUE,
    };

    private NeverThrowsTest() {}

    public static void main(String[] args) throws IllegalAccessException {
        Method[] face = face();
        for (int seed = 1; seed <= OBJECTS; seed++) {
            if (!bears(new Random(seed), face)) System.exit(1);
        }
        System.out.println("NeverThrowsTest: " + OBJECTS * CALLS + " calls, none threw");
    }

    private static Method[] face() {
        return Arrays.stream(StackDepths.class.getDeclaredMethods())
                .filter(m -> Modifier.isPublic(m.getModifiers()))
                .sorted(Comparator.comparing(Method::getName)).toArray(Method[]::new);
    }

    private static boolean bears(Random random, Method[] face) throws IllegalAccessException {
        StackDepths x = new StackDepths();
        List<String> told = new ArrayList<>();
        // Numbers from the low end make states; those from the whole row try to break them.
        int mostly = 10 + random.nextInt(NUMBERS.length - 9);
        for (int i = 0; i < CALLS; i++) {
            Method method = face[random.nextInt(face.length)];
            Object[] values = values(random, method, random.nextInt(10) == 0 ? NUMBERS.length : mostly);
            told.add(method.getName() + Arrays.toString(values));
            try {
                method.invoke(x, values);
            } catch (InvocationTargetException thrown) {
                System.out.println("NeverThrowsTest: " + thrown.getCause() + " at the last of " + told);
                return false;
            }
        }
        return true;
    }

    private static Object[] values(Random random, Method method, int upTo) {
        Class<?>[] types = method.getParameterTypes();
        Object[] values = new Object[types.length];
        for (int i = 0; i < types.length; i++) {
            if (types[i] == boolean.class) values[i] = random.nextBoolean();
            else values[i] = NUMBERS[random.nextInt(upTo)];
        }
        return values;
    }
}
