import java.lang.reflect.InvocationTargetException;
import java.lang.reflect.Method;
import java.lang.reflect.Modifier;
import java.util.NoSuchElementException;
import java.util.Set;

/** Whatever a call is given in whatever state, it throws nothing but what the document says. */
public final class ThrowsTest extends Bench {
    static final int[] INTS = {
        Integer.MIN_VALUE, Integer.MIN_VALUE + 1, -65, -64, -2, -1, 0, 1, 2, 3, 4, 5, 7, 8, 9, 10, 11, 12, 13, 20, 21, 31, 32, 59,
        60, 61, 63, 64, 76, 77, 80, 81, 99, 100, 115, 116, 200, 201, 511, 512, 1023, 1024, Integer.MAX_VALUE};
    static final long[] LONGS = {
        Long.MIN_VALUE, -1, 0, 1, 3, 127, 128, 4095, 8191, (1L << 59) - 1, 1L << 59, (1L << 60) - 1, 1L << 60, Long.MAX_VALUE};
    static final Set<String> MAY_THROW = Set.of("lamp", "fault", "row");
    /** Fewer than an object has, so that all answers still count. */
    static final int CALLS = 100;

    public static void main(String[] args) {
        runTests(ThrowsTest.class);
    }

    static Maker[] makers() {
        return new Maker[] {
            NinetyLamps::new, Bench::rich, () -> with("w2"), () -> with("w2;0>1*1"), () -> addLamps(with("w10"), 60),
            FaultsEdgesTest::star, () -> PicturesEdgesTest.four(12), () -> PicturesEdgesTest.ring(7)};
    }

    static Object[] pick(Class<?>[] types, int turn) {
        Object[] values = new Object[types.length];
        int left = turn;
        for (int k = 0; k < types.length; k++) {
            if (types[k] == int.class) {
                values[k] = INTS[left % INTS.length];
                left = left / INTS.length + left % INTS.length;
            } else {
                values[k] = LONGS[left % LONGS.length];
                left = left / LONGS.length + left % LONGS.length;
            }
        }
        return values;
    }

    /** All pairs of the values for two parameters, and as many rows of more of them. */
    static int turns(Class<?>[] types) {
        return types.length == 0 ? 1 : types.length == 1 ? INTS.length : INTS.length * INTS.length;
    }

    static void call(Method method, NinetyLamps x, Object[] values) throws IllegalAccessException {
        try {
            method.invoke(x, values);
        } catch (InvocationTargetException e) {
            boolean due = MAY_THROW.contains(method.getName()) && e.getCause().getClass() == NoSuchElementException.class;
            if (!due) {
                wrong++;
                System.out.println(test + ": " + method.getName() + java.util.Arrays.toString(values) + " threw " + e.getCause());
            }
        }
    }

    static void termsNothingElseIsThrown() throws IllegalAccessException {
        for (Maker maker : makers()) {
            for (Method method : NinetyLamps.class.getDeclaredMethods()) {
                if (!Modifier.isPublic(method.getModifiers())) {
                    continue;
                }
                Class<?>[] types = method.getParameterTypes();
                NinetyLamps x = maker.make();
                for (int turn = 0; turn < turns(types); turn++) {
                    x = turn % CALLS == CALLS - 1 ? maker.make() : x;
                    call(method, x, pick(types, turn));
                }
            }
        }
    }
}
