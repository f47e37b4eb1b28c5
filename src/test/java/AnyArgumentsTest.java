import java.lang.reflect.InvocationTargetException;
import java.lang.reflect.Method;
import java.util.Arrays;
import java.util.Comparator;
import java.util.Random;

/** No call throws, whatever its arguments are and whatever came before; the same calls give the same answers. */
public final class AnyArgumentsTest {
    private static final int RUNS = 300;
    private static final int CALLS = 512;
    private static final int[] EDGES = {Integer.MIN_VALUE, Integer.MIN_VALUE + 1, -2000000000, -257, -256, -16, -3, -2,
        -1, 0, 1, 2, 3, 4, 5, 8, 9, 10, 11, 12, 13, 15, 16, 17, 20, 21, 34, 99, 100, 101, 119, 120, 200, 201, 219, 220,
        255, 256, 699, 700, 701, 999, 1000, 99999, 100000, 1000000000, Integer.MAX_VALUE - 1, Integer.MAX_VALUE};

    public static void main(String[] args) throws IllegalAccessException {
        Check check = new Check("AnyArgumentsTest");
        Method[] methods = IceSearch.class.getDeclaredMethods();
        Method[] face = Arrays.stream(methods).filter(m -> (m.getModifiers() & 1) != 0)
            .sorted(Comparator.comparing(Method::getName)).toArray(Method[]::new);
        for (int run = 0; run < RUNS && check.isGood(); run++) {
            Random random = new Random(run);
            IceSearch x = new IceSearch();
            IceSearch again = new IceSearch();
            for (int i = 0; i < CALLS; i++) {
                Method method = face[random.nextInt(face.length)];
                Object[] given = given(method, random, run % 3 * 4 + 2);
                Object first = answer(method, x, given);
                String call = "run " + run + ": " + method.getName() + Arrays.toString(given);
                check.that(call + " doesn't throw: " + first, !(first instanceof Throwable));
                check.that(call + " answers twice alike", first.equals(answer(method, again, given)));
            }
        }
        check.end();
    }

    private static Object[] given(Method method, Random random, int small) {
        Object[] given = new Object[method.getParameterCount()];
        for (int i = 0; i < given.length; i++) {
            if (method.getParameterTypes()[i] == boolean.class) {
                given[i] = random.nextBoolean();
            } else {
                boolean edge = random.nextInt(small) == 0;
                given[i] = edge ? EDGES[random.nextInt(EDGES.length)] : random.nextInt(small * 3) - 1;
            }
        }
        return given;
    }

    private static Object answer(Method method, IceSearch x, Object[] given) throws IllegalAccessException {
        try {
            return method.invoke(x, given);
        } catch (InvocationTargetException thrown) {
            return thrown.getCause();
        }
    }
}
