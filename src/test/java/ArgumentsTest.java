import java.util.ArrayList;
import java.util.List;

/**
 * Every method with every mix of odd arguments, in several states: it never
 * throws, and a call that asks, or that is refused, changes nothing.
 */
public final class ArgumentsTest {
    private static final int[] ODD = {Integer.MIN_VALUE, Integer.MIN_VALUE + 1, -1000000, -2, -1, 0, 1, 2, 3, 4, 5, 6, 7, 8, 12, 13, 16,
            17, 20, 21, 32, 33, 40, 41, 64, 65, 200, 255, 256, 399, 400, 1000, 1999, 2000, 2001, 9999, 10000, 1000000,
            Integer.MAX_VALUE - 1, Integer.MAX_VALUE};
    private static final int STATES = 4;
    /** How many calls are made before the object is looked at. */
    private static final int BATCH = 60;
    private static final String CHANGERS = " type clear path steps asks draws breaks forget trust state weight empty ";

    private static Probes base;
    private static String before;
    private static final List<int[]> harmless = new ArrayList<>();

    public static void main(String[] args) {
        for (int state = 0; state < STATES; state++) {
            base = in(state);
            before = Picture.of(base);
            for (int method = 0; method < Probes.methods(); method++) callAll(method);
        }
        Check.end("ArgumentsTest");
    }

    private static Probes in(int state) {
        if (state == 0) return new Probes();
        Probes x = Check.path("room 3; rate 2; mark 1; budget 9 3; plan 2 0 3; cross 4 0 1; cross 0 2 (1) 4;");
        x.state(1);
        x.state(0);
        x.weight(0, 0, 6);
        x.weight(0, 1, 6);
        x.weight(1, 0, 3);
        if (state != 1) x.weight(1, 1, 9);
        x.asks(3);
        x.steps(11);
        if (state == 1) return x;
        fill(x);
        if (state == 2) return x;
        for (int i = 0; i < 62; i++) x.steps(32);
        return x;
    }

    /** What has a limit reaches it. */
    private static void fill(Probes x) {
        for (int i = 0; i < 4; i++) x.asks(2 + i % 2);
        for (int i = 0; i < 5; i++) x.state(0);
        for (int i = 0; i < 200; i++) x.type(i < 90 ? '(' : i);
    }

    private static void callAll(int method) {
        int parameters = Probes.parameters(method), mixes = 1;
        for (int i = 0; i < parameters; i++) mixes *= ODD.length;
        Probes x = base.twin();
        boolean changes = CHANGERS.contains(" " + Probes.name(method) + " ");
        for (int mix = 0; mix < mixes; mix++) {
            if (parameters == 3 && mix % 7 != 0) continue;
            int[] call = new int[parameters + 1];
            call[0] = method;
            for (int i = 0, rest = mix; i < parameters; i++, rest /= ODD.length) call[i + 1] = ODD[rest % ODD.length];
            long answer = x.call(call);
            boolean isError = answer < 0 && answer != EpisodeProbes.NONE;
            if (isError || !changes) harmless.add(call);
            if (!isError && changes || x.callsLeft() == 0) x = base.twin();
            if (harmless.size() == BATCH) look();
        }
        if (!harmless.isEmpty()) look();
    }

    private static void look() {
        Probes y = base.twin();
        for (int[] call : harmless) y.call(call);
        Check.holds("the " + harmless.size() + " calls up to " + y.lastCall() + " change nothing", Picture.of(y).equals(before));
        harmless.clear();
    }
}
