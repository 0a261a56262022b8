import java.lang.reflect.InvocationTargetException;
import java.lang.reflect.Method;
import java.util.Arrays;

/** Every call with mixtures of far and near arguments, in many states: none may throw. */
public final class HostileTest {
    private static final long[] ARGS = {Integer.MIN_VALUE, -1, 0, 1, 2, 3, 5, 11, 12, 15, 59, 60, 120, 127,
        Integer.MAX_VALUE};
    private static final int MOST_MIXTURES = 60000;
    private static int wrong = 0;
    private static long asked = 0;

    public static void main(String[] args) throws IllegalAccessException {
        for (int state = 0; state < 6; state++) {
            QuotaCarousel x = carousel(state);
            for (Method call : QuotaCarousel.class.getDeclaredMethods()) {
                if (java.lang.reflect.Modifier.isPublic(call.getModifiers())) {
                    tryAll(x, call);
                }
            }
        }
        System.out.println(asked + " hostile calls, " + wrong + " threw");
        System.exit(wrong == 0 ? 0 : 1);
    }

    /** No units; one; twelve; ROW 0 over; rows 1 and 2 over; the largest wheel that isn't over. */
    private static QuotaCarousel carousel(int state) {
        QuotaCarousel x = new QuotaCarousel();
        int[] primes = {59, 53, 47, 43, 41, 37, 31, 29, 23, 19, 17, 13};
        int units = state == 0 ? 0 : state == 1 ? 1 : state == 5 ? 5 : 12;
        for (int i = 0; i < units; i++) {
            x.unit(1, state == 3 || state == 5 ? primes[i] : 1 + i % 6, i % 4, 99 - i);
            x.set(i, 1, i % 2);
            x.odds(i, 1, 1, state == 4 ? primes[i] : 1 + i % 5);
            x.odds(i, 2, 0, state == 4 ? primes[i] : 1 + i % 5);
        }
        return x;
    }

    private static void tryAll(QuotaCarousel x, Method call) throws IllegalAccessException {
        Class<?>[] types = call.getParameterTypes();
        int mixtures = (int) Math.pow(ARGS.length, types.length);
        for (int i = 0; i < Math.min(mixtures, MOST_MIXTURES); i++) {
            Object[] values = new Object[types.length];
            int rest = i;
            for (int a = 0; a < types.length; a++) {
                long value = ARGS[rest % ARGS.length];
                rest /= ARGS.length;
                if (types[a] == long.class) {
                    values[a] = value * value * value;
                } else {
                    values[a] = (int) value;
                }
            }
            asked++;
            try {
                call.invoke(x, values);
            } catch (InvocationTargetException thrown) {
                wrong++;
                System.out.println(call.getName() + Arrays.toString(values) + " threw " + thrown.getCause());
            }
        }
    }
}
