import java.lang.reflect.InvocationTargetException;
import java.lang.reflect.Method;
import java.lang.reflect.Modifier;

/** No call throws, whatever its arguments are, in whatever state: LANGUAGE.md, rule 7. */
public final class ExtremesTest extends Bench {
    private static final int[] INTS = {
        Integer.MIN_VALUE, Integer.MIN_VALUE + 1, -65536, -2, -1, 0, 1, 3, 4, 6, 8, 11, 12, 31, 32, 64, 120, 1 << 30, Integer.MAX_VALUE
    };
    private static final long[] LONGS = {Long.MIN_VALUE, -1L, 0L, 1L, 2L, 65535L, 65536L, 1L << 32, Long.MAX_VALUE};
    /** Of calls with many arguments not all ways are gone, but each so many-th. */
    private static final int MOST_WAYS = 2000;

    public static void main(String[] args) throws IllegalAccessException {
        sentence("LANGUAGE.md 7", "No call may ever throw or fail to end, for any arguments in any state");
        for (Method method : TurnField.class.getDeclaredMethods()) {
            if (Modifier.isPublic(method.getModifiers())) {
                for (int state = 0; state < 7; state++) {
                    callAllWays(method, state);
                }
            }
        }
        finish("extremes");
    }

    private static TurnField inState(int state) {
        switch (state) {
            case 0: return new TurnField();
            case 1: return busy();
            case 2: return worn();
            case 3: return allHeads(6, "up8", 6, "near8");
            case 4: return allHeads(2, "ruler8", 6, "exact1");
            case 5: return places(-1L, LOWEST, 0L, 7L, 1L << 40, -3L, 5L, HIGHEST);
            default: {
                TurnField x = gridOf(4, -1L, LOWEST, 0L, 7L, 1L << 40, -3L, 5L, HIGHEST, 1L, 2L, 3L, 4L, 0L, 0L, 0L, 0L);
                x.keep(0);
                feedText(x, times("9", 120));
                return x;
            }
        }
    }

    private static void callAllWays(Method method, int state) throws IllegalAccessException {
        Class<?>[] types = method.getParameterTypes();
        long ways = 1L;
        for (Class<?> type : types) {
            ways *= type == int.class ? INTS.length : LONGS.length;
        }
        // a step that no number of arguments divides: all of them come up in each place
        long step = ways <= MOST_WAYS ? 1L : ways / MOST_WAYS * 2L + 1L;
        TurnField x = inState(state);
        int calls = 0;
        for (long way = 0L; way < ways; way += step) {
            if (calls == 64) {
                x = inState(state);
                calls = 0;
            }
            call(method, state, x, argumentsOf(types, way));
            calls++;
        }
    }

    private static Object[] argumentsOf(Class<?>[] types, long way) {
        Object[] arguments = new Object[types.length];
        long rest = way;
        for (int i = 0; i < types.length; i++) {
            int all = types[i] == int.class ? INTS.length : LONGS.length;
            int which = (int) (rest % all);
            rest /= all;
            arguments[i] = types[i] == int.class ? (Object) INTS[which] : (Object) LONGS[which];
        }
        return arguments;
    }

    private static void call(Method method, int state, TurnField x, Object[] arguments) throws IllegalAccessException {
        String name = method.getName() + " " + java.util.Arrays.toString(arguments) + " in state " + state;
        try {
            method.invoke(x, arguments);
            due(name, 0L, 0L);
        } catch (InvocationTargetException thrown) {
            due(name + " threw " + thrown.getCause(), 1L, 0L);
        }
    }
}
