import java.lang.reflect.InvocationTargetException;
import java.lang.reflect.Method;
import java.lang.reflect.Modifier;
import java.util.Arrays;

/** No call throws, for any arguments in any state: each public method by numbers near and far. */
public final class AnyCallTest {
    private static final int CALLS = 400;
    private static final long[] NUMBERS = {Integer.MIN_VALUE, -1, 0, 1, 2, 7, 8, 12, 40, Integer.MAX_VALUE};
    private static final long[] FEW = {Integer.MIN_VALUE, -1, 0, 1, 3, 39, Integer.MAX_VALUE};
    private static final long[] LONGS = {Long.MIN_VALUE, -1, 0, 0x6e65656420313b72L, Long.MAX_VALUE};

    private final Method method;
    private final State state;
    private LastKeg x;
    private int calls = CALLS;

    private AnyCallTest(Method method, State state) {
        this.method = method;
        this.state = state;
    }

    public static void main(String[] args) {
        int asked = 0;
        for (Method m : LastKeg.class.getDeclaredMethods()) {
            if (Modifier.isPublic(m.getModifiers())) {
                for (State state : State.values()) {
                    new AnyCallTest(m, state).from(0, new Object[m.getParameterCount()]);
                }
                asked++;
            }
        }
        Check.due("methods", asked, 28);
        Check.finish();
    }

    /** All ways to go on from the arguments that stand there. */
    private void from(int place, Object[] row) {
        if (place == row.length) {
            call(row);
            return;
        }
        boolean wide = method.getParameterTypes()[place] == long.class;
        for (long v : wide ? LONGS : row.length > 3 ? FEW : NUMBERS) {
            row[place] = wide ? (Object) v : (Object) (int) v;
            from(place + 1, row);
        }
    }

    private void call(Object[] row) {
        if (calls >= CALLS) {
            x = state.make();
            calls = 0;
        }
        calls++;
        String thrown = "";
        try {
            method.invoke(x, row);
        } catch (InvocationTargetException | IllegalAccessException e) {
            thrown = String.valueOf(e.getCause());
        }
        Check.holds(method.getName() + Arrays.toString(row) + ", " + state + " threw " + thrown, thrown.isEmpty());
    }
}
