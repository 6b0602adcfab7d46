import java.lang.reflect.InvocationTargetException;
import java.lang.reflect.Method;
import java.lang.reflect.Modifier;
import java.util.ArrayList;
import java.util.Comparator;
import java.util.List;
import java.util.Random;

/**
 * No call throws, for any arguments in any state, behind the 512th call too, where its answer is free; up to it the
 * same calls give the same answers.
 */
public final class AnyCallTest {
    private static final Due d = new Due("AnyCallTest");
    /** Fewer than 512, as Houses have made calls already. */
    private static final int PROMISED = 400;
    private static final int CALLS = 20000;
    private static final long[] EDGES = {
        Integer.MIN_VALUE, Integer.MIN_VALUE + 1, -1000000001, -36, -10, -2, -1, 0, 1, 2, 3, 4, 5, 6, 7, 8, 9, 16, 23, 24,
        25, 32, 35, 36, 40, 41, 59, 60, 61, 63, 64, 69, 70, 99, 100, 101, 9999, 10000, Integer.MAX_VALUE - 1,
        Integer.MAX_VALUE, Long.MIN_VALUE, Long.MAX_VALUE,
    };

    public static void main(String[] args) throws IllegalAccessException {
        List<Method> face = face();
        d.due("39 calls are to be made", face.size(), 39);
        outermost(face);
        anyRun(face, 1, Houses.bare(), Houses.bare());
        anyRun(face, 2, Houses.lived(), Houses.lived());
        anyRun(face, 3, Houses.full(), Houses.full());
        d.end();
    }

    private static List<Method> face() {
        List<Method> face = new ArrayList<>();
        for (Method method : DownByTheHour.class.getDeclaredMethods()) {
            if (Modifier.isPublic(method.getModifiers())) {
                face.add(method);
            }
        }
        face.sort(Comparator.comparing(Method::getName));
        return face;
    }

    /** Each call with each edge for all its numbers, on a bare house, one that lived, and a full one. */
    private static void outermost(List<Method> face) throws IllegalAccessException {
        for (Method method : face) {
            for (long edge : EDGES) {
                Object[] numbers = new Object[method.getParameterCount()];
                for (int i = 0; i < numbers.length; i++) {
                    numbers[i] = as(method, i, edge);
                }
                answer(Houses.bare(), method, numbers);
                answer(Houses.lived(), method, numbers);
                answer(Houses.full(), method, numbers);
            }
        }
    }

    /** Calls of any kind on two houses that began alike. */
    private static void anyRun(List<Method> face, int seed, DownByTheHour x, DownByTheHour y)
            throws IllegalAccessException {
        Random random = new Random(seed);
        for (int call = 1; call <= CALLS; call++) {
            Method method = face.get(random.nextInt(face.size()));
            Object[] numbers = new Object[method.getParameterCount()];
            for (int i = 0; i < numbers.length; i++) {
                boolean isAny = random.nextInt(8) == 0;
                long v = isAny ? random.nextLong() : EDGES[random.nextInt(EDGES.length)];
                numbers[i] = as(method, i, random.nextBoolean() ? random.nextInt(8) : v);
            }
            long got = answer(x, method, numbers);
            if (call <= PROMISED) {
                d.due("13: the same calls, " + method.getName(), answer(y, method, numbers), got);
            }
        }
    }

    private static Object as(Method method, int i, long v) {
        if (method.getParameterTypes()[i] == long.class) {
            return v;
        }
        return (int) v;
    }

    private static long answer(DownByTheHour x, Method method, Object[] numbers) throws IllegalAccessException {
        try {
            return ((Number) method.invoke(x, numbers)).longValue();
        } catch (InvocationTargetException thrown) {
            d.due("7: " + method.getName() + " threw " + thrown.getCause(), 1, 0);
            return 0;
        }
    }
}
