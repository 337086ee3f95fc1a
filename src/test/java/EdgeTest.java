import java.lang.reflect.InvocationTargetException;
import java.lang.reflect.Method;
import java.util.Arrays;
import java.util.Comparator;
import java.util.Random;

/** No call throws, whatever its arguments and the state: numbers at and beyond all edges, by chance, always the same. */
public final class EdgeTest {
    private static final int[] NUMBERS = {Integer.MIN_VALUE, Integer.MIN_VALUE + 1, -1000000, -33, -11, -10, -3, -2, -1, 0,
        1, 2, 3, 4, 5, 6, 7, 8, 9, 10, 11, 13, 14, 15, 16, 19, 20, 21, 25, 26, 31, 32, 33, 63, 64, 99, 100, 200, 201, 1600,
        0x6e616d65, 0x20613b20, Integer.MAX_VALUE - 1, Integer.MAX_VALUE};

    private static Object[] arguments(Method m, Random random) {
        Object[] values = new Object[m.getParameterCount()];
        for (int i = 0; i < values.length; i++) {
            int number = NUMBERS[random.nextInt(NUMBERS.length)];
            values[i] = m.getParameterTypes()[i] == boolean.class ? (Object) (number > 0) : (Object) number;
        }
        return values;
    }

    private static void run(long seed, Method[] methods) throws Exception {
        Random random = new Random(seed);
        WordEach x = seed % 4 == 0 ? new WordEach() : Check.court(Check.COW);
        if (seed % 4 > 1) {
            for (int witness = 0; witness < 4; witness++) {
                x.say((int) ((witness + seed) % 4), random.nextInt(3));
            }
        }
        for (int call = 0; call < 400; call++) {
            Method m = methods[random.nextInt(methods.length)];
            boolean keepsCourt = !m.getName().equals("text") || random.nextInt(20) == 0;
            Object[] arguments = arguments(m, random);
            try {
                if (keepsCourt) {
                    m.invoke(x, arguments);
                }
            } catch (InvocationTargetException e) {
                Check.due(m.getName() + Arrays.toString(arguments) + " threw " + e.getCause(), 1, 0);
            }
        }
    }

    public static void main(String[] args) throws Exception {
        Method[] methods = Arrays.stream(WordEach.class.getDeclaredMethods())
            .filter(m -> java.lang.reflect.Modifier.isPublic(m.getModifiers()))
            .sorted(Comparator.comparing(Method::getName)).toArray(Method[]::new);
        Check.due("methods", methods.length, 38);
        for (int seed = 0; seed < 400; seed++) {
            run(seed, methods);
        }
        Check.over("EdgeTest");
    }
}
