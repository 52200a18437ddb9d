import java.lang.reflect.Method;
import java.lang.reflect.Modifier;

/** Every method with every odd argument, in empty and in full states: nothing is ever thrown. */
public final class HostileTest {
    private static final int[] ODD = {Integer.MIN_VALUE, -1_000_000_007, -2, -1, 0, 1, 2, 5, 7, 8, 9, 39, 40, 41, 60, 61, 99,
        255, 256, 1 << 20, Integer.MAX_VALUE - 1, Integer.MAX_VALUE};
    private static int calls;

    private static void fill(Counted x, int state) {
        if (state == 0) {
            return;
        }
        for (int k = 0; k < 8; k++) {
            x.person(k % 6, k, 1 + k, 99 - k, 40 - k);
            x.row(k, k % 5, state == 1 ? 40 : k);
            if (k % 3 == 0) {
                x.show(k, k);
            }
        }
        x.tell(1, 8);
        x.image();
        for (int k = 0; k < 8; k++) {
            x.climb(state == 1 ? 7 - k : k);
        }
        if (state == 2) {
            x.set(1, 0, Long.MAX_VALUE);
            x.set(2, 1, Long.MIN_VALUE);
            for (int k = 0; k < 250; k++) {
                x.feed("climb 0;".charAt(k % 8));
            }
        }
    }

    private static void call(Counted x, Method m, int[] values) throws ReflectiveOperationException {
        Class<?>[] types = m.getParameterTypes();
        Object[] given = new Object[types.length];
        for (int k = 0; k < types.length; k++) {
            given[k] = types[k] == long.class ? (Object) ((long) values[k] * 4294967311L) : (Object) values[k];
        }
        m.invoke(x, given);
        calls++;
    }

    public static void main(String[] args) throws ReflectiveOperationException {
        long drawn = 42;
        for (Method m : Counted.class.getDeclaredMethods()) {
            if (!Modifier.isPublic(m.getModifiers())) {
                continue;
            }
            for (int state = 0; state < 3; state++) {
                int n = m.getParameterCount();
                int all = n > 3 ? 4000 : (int) Math.pow(ODD.length, n);
                Counted x = null;
                for (int nth = 0; nth < all; nth++) {
                    if (nth % 200 == 0) {
                        x = new Counted();
                        fill(x, state);
                    }
                    int[] values = new int[n];
                    int rest = nth;
                    for (int k = 0; k < n; k++) {
                        drawn = drawn * 6364136223846793005L + 1442695040888963407L;
                        values[k] = ODD[n > 3 ? (int) ((drawn >>> 33) % ODD.length) : rest % ODD.length];
                        rest /= ODD.length;
                    }
                    call(x, m, values);
                }
            }
        }
        System.out.println(calls + " calls, nothing thrown");
    }
}
