/**
 * An EpisodeProbes with a memory. It keeps the calls made on it with their
 * answers; it ends a test that makes more calls than the document promises
 * answers for; and it makes twins, new objects that have had the same calls.
 */
final class Probes {
    static final int MOST_CALLS = 512;
    private static final String[] NAMES = {"type", "clear", "path", "row", "steps", "asks", "draws", "breaks", "lossy", "slot", "episode",
        "packets", "delay", "under", "pattern", "forget", "trust", "agrees", "estimate", "truth", "state", "weight", "empty", "share",
        "chance", "expected", "lasts", "stab", "ahead", "enough", "count"};
    private static final int[] PARAMETERS = {1, 0, 0, 2, 1, 1, 2, 1, 1, 2, 2, 2, 1, 2, 2, 0, 2, 1, 2, 2, 1, 3, 0, 2, 3, 2, 2, 2, 2, 1, 1};

    private final EpisodeProbes probes = new EpisodeProbes();
    private final int[][] calls = new int[MOST_CALLS][];
    private final long[] answers = new long[MOST_CALLS];
    private int made = 0;

    static int methods() {
        return NAMES.length;
    }

    static String name(int method) {
        return NAMES[method];
    }

    static int parameters(int method) {
        return PARAMETERS[method];
    }

    int callsLeft() {
        return MOST_CALLS - made;
    }

    /** A new object that has had the same calls; each must have answered the same. */
    Probes twin() {
        Probes twin = new Probes();
        for (int i = 0; i < made; i++) {
            long answer = twin.call(calls[i]);
            if (answer != answers[i]) Check.due("again, call " + i + ", " + text(calls[i]), answer, answers[i]);
        }
        return twin;
    }

    String lastCall() {
        return made == 0 ? "no call" : text(calls[made - 1]);
    }

    private static String text(int[] call) {
        StringBuilder text = new StringBuilder(NAMES[call[0]]).append('(');
        for (int i = 1; i <= PARAMETERS[call[0]]; i++) text.append(i == 1 ? "" : ", ").append(call[i]);
        return text.append(')').toString();
    }

    /** The method's number, and its arguments. */
    long call(int... call) {
        if (made >= MOST_CALLS) throw new IllegalStateException("the test makes more than " + MOST_CALLS + " calls on one object");
        calls[made] = call;
        answers[made] = answer(call);
        made++;
        return answers[made - 1];
    }

    private long answer(int[] call) {
        int a = call.length > 1 ? call[1] : 0, b = call.length > 2 ? call[2] : 0, c = call.length > 3 ? call[3] : 0;
        switch (call[0]) {
            case 0: return probes.type(a);
            case 1: return probes.clear();
            case 2: return probes.path();
            case 3: return probes.row(a, b);
            case 4: return probes.steps(a);
            case 5: return probes.asks(a);
            case 6: return probes.draws(a, b);
            case 7: return probes.breaks(a);
            case 8: return probes.lossy(a);
            case 9: return probes.slot(a, b);
            case 10: return probes.episode(a, b);
            case 11: return probes.packets(a, b);
            case 12: return probes.delay(a);
            case 13: return probes.under(a, b);
            case 14: return probes.pattern(a, b);
            case 15: return probes.forget();
            case 16: return probes.trust(a, b);
            case 17: return probes.agrees(a);
            case 18: return probes.estimate(a, b);
            case 19: return probes.truth(a, b);
            case 20: return probes.state(a);
            case 21: return probes.weight(a, b, c);
            case 22: return probes.empty();
            case 23: return probes.share(a, b);
            case 24: return probes.chance(a, b, c);
            case 25: return probes.expected(a, b);
            case 26: return probes.lasts(a, b);
            case 27: return probes.stab(a, b);
            case 28: return probes.ahead(a, b);
            case 29: return probes.enough(a);
            default: return probes.count(a);
        }
    }

    int type(int letter) {
        return (int) call(0, letter);
    }

    int clear() {
        return (int) call(1);
    }

    int path() {
        return (int) call(2);
    }

    int row(int source, int slot) {
        return (int) call(3, source, slot);
    }

    int steps(int n) {
        return (int) call(4, n);
    }

    int asks(int kind) {
        return (int) call(5, kind);
    }

    int draws(int chance, int x) {
        return (int) call(6, chance, x);
    }

    int breaks(int k) {
        return (int) call(7, k);
    }

    int lossy(int slot) {
        return (int) call(8, slot);
    }

    int slot(int slot, int what) {
        return (int) call(9, slot, what);
    }

    int episode(int k, int what) {
        return (int) call(10, k, what);
    }

    int packets(int source, int what) {
        return (int) call(11, source, what);
    }

    int delay(int what) {
        return (int) call(12, what);
    }

    int under(int k, int what) {
        return (int) call(13, k, what);
    }

    long pattern(int kind, int pattern) {
        return call(14, kind, pattern);
    }

    long forget() {
        return call(15);
    }

    int trust(int test, int most) {
        return (int) call(16, test, most);
    }

    int agrees(int test) {
        return (int) call(17, test);
    }

    long estimate(int which, int what) {
        return call(18, which, what);
    }

    long truth(int which, int what) {
        return call(19, which, what);
    }

    int state(int lossy) {
        return (int) call(20, lossy);
    }

    int weight(int from, int to, int weight) {
        return (int) call(21, from, to, weight);
    }

    int empty() {
        return (int) call(22);
    }

    long share(int state, int what) {
        return call(23, state, what);
    }

    long chance(int kind, int pattern, int what) {
        return call(24, kind, pattern, what);
    }

    long expected(int which, int what) {
        return call(25, which, what);
    }

    long lasts(int n, int what) {
        return call(26, n, what);
    }

    int stab(int width, int k) {
        return (int) call(27, width, k);
    }

    int ahead(int n, int more) {
        return (int) call(28, n, more);
    }

    int enough(int n) {
        return (int) call(29, n);
    }

    int count(int what) {
        return (int) call(30, what);
    }
}
