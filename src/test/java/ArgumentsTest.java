import java.lang.reflect.Method;
import java.lang.reflect.Modifier;

/** Every method with every mix of odd arguments, in several states: it never throws, and an error changes nothing. */
public final class ArgumentsTest {
    private static final int[] ODD = {Integer.MIN_VALUE, Integer.MIN_VALUE + 1, -1000000, -2, -1, 0, 1, 2, 3, 4, 5, 6, 7, 8, 12, 13, 16,
            17, 20, 21, 32, 33, 40, 41, 64, 65, 200, 255, 256, 399, 400, 1000, 1999, 2000, 2001, 9999, 10000, 1000000,
            Integer.MAX_VALUE - 1, Integer.MAX_VALUE};

    public static void main(String[] args) throws Exception {
        for (int state = 0; state < STATES; state++) {
            for (Method m : EpisodeProbes.class.getDeclaredMethods()) {
                if (Modifier.isPublic(m.getModifiers())) callAll(m, state);
            }
        }
        Check.end("ArgumentsTest");
    }

    private static final int STATES = 4;

    private static EpisodeProbes in(int state) {
        if (state == 0) return new EpisodeProbes();
        EpisodeProbes x = Check.path("room 3; rate 2; mark 1; budget 9 3; plan 2 0 3; cross 4 0 1; cross 0 2 (1) 4;");
        x.state(1);
        x.state(0);
        x.weight(0, 0, 6);
        x.weight(0, 1, 6);
        x.weight(1, 0, 3);
        if (state != 1) x.weight(1, 1, 9);
        x.asks(3);
        x.steps(11);
        if (state == 1) return x;
        fill(x);
        if (state == 2) return x;
        for (int i = 0; i < 62; i++) x.steps(32);
        return x;
    }

    /** What has a limit reaches it. */
    private static void fill(EpisodeProbes x) {
        for (int i = 0; i < 4; i++) x.asks(2 + i % 2);
        for (int i = 0; i < 5; i++) x.state(0);
        for (int i = 0; i < 200; i++) x.type(i < 90 ? '(' : i);
    }

    private static void callAll(Method m, int state) throws Exception {
        int parameters = m.getParameterCount(), mixes = 1;
        for (int i = 0; i < parameters; i++) mixes *= ODD.length;
        EpisodeProbes x = in(state);
        String before = Check.picture(x);
        for (int mix = 0; mix < mixes; mix++) {
            if (parameters == 3 && mix % 7 != 0) continue;
            Object[] arguments = new Object[parameters];
            for (int i = 0, rest = mix; i < parameters; i++, rest /= ODD.length) arguments[i] = ODD[rest % ODD.length];
            long answer = ((Number) m.invoke(x, arguments)).longValue();
            boolean isError = answer < 0 && answer != EpisodeProbes.NONE;
            String after = isError && parameters == 3 && mix % 5 != 0 ? before : Check.picture(x);
            if (isError) Check.holds(m.getName() + " " + java.util.Arrays.toString(arguments) + " changes nothing", after.equals(before));
            if (!isError && !after.equals(before)) x = in(state);
        }
    }
}
