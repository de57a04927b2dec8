/** Promises 16 to 21: pattern, forget, trust, agrees, estimate, truth. */
public final class EstimatesTest {
    public static void main(String[] args) {
        patterns();
        forget();
        trust();
        agrees();
        estimates();
        fewAndUnlike();
        truth();
        Check.end("EstimatesTest");
    }

    /**
     * Each slot's probes see what the string says: with room for 1 and the
     * rate 1, a probe is lost where a packet of the source is before it.
     */
    private static Probes seeing(String bits) {
        StringBuilder text = new StringBuilder("room 1; cross");
        for (int i = 0; i < bits.length(); i++) text.append(' ').append(bits.charAt(i));
        return Check.path(text.append(';').toString());
    }

    /** One experiment for each pattern, one after the other: a pair for two bits, a triple for three. */
    private static Probes saw(String patterns) {
        Probes x = seeing(patterns.replace(" ", ""));
        for (String pattern : patterns.split(" ")) {
            x.asks(pattern.length());
            x.steps(pattern.length());
        }
        return x;
    }

    private static void patterns() {
        Probes x = saw("00 01 10 11 000 001 010 011 100 101 110 111");
        for (int bits = 0; bits < 4; bits++) Check.due("pair " + bits, x.pattern(2, bits), 1);
        for (int bits = 0; bits < 8; bits++) Check.due("triple " + bits, x.pattern(3, bits), 1);
        x = saw("01 01 01 110 110 11");
        for (int bits = 0; bits < 4; bits++) Check.due("pair " + bits, x.pattern(2, bits), bits == 1 ? 3 : bits == 3 ? 1 : 0);
        for (int bits = 0; bits < 8; bits++) Check.due("triple " + bits, x.pattern(3, bits), bits == 6 ? 2 : 0);
        Check.due("pair 4", x.pattern(2, 4), EpisodeProbes.BAD);
        Check.due("pair -1", x.pattern(2, -1), EpisodeProbes.BAD);
        Check.due("triple 8", x.pattern(3, 8), EpisodeProbes.BAD);
        Check.due("triple -1", x.pattern(3, -1), EpisodeProbes.BAD);
        Check.due("kind 1", x.pattern(1, 0), EpisodeProbes.BAD);
        Check.due("kind 4", x.pattern(4, 0), EpisodeProbes.BAD);
        Check.due("kind 0", x.pattern(0, 0), EpisodeProbes.BAD);
        Check.due("kind -30", x.pattern(-30, 0), EpisodeProbes.BAD);
    }

    private static void forget() {
        Probes x = saw("00 01 10 11 000 001 010 011 100 101 110 111");
        x.trust(1, 7);
        x.asks(2);
        x.steps(1);
        x.draws(3, 4);
        Check.due("forget", x.forget(), 12);
        for (int bits = 0; bits < 8; bits++) Check.due("triple " + bits, x.pattern(3, bits), 0);
        for (int bits = 0; bits < 4; bits++) Check.due("pair " + bits, x.pattern(2, bits), 0);
        Check.due("forget again", x.forget(), 0);
        Check.due("the tolerance stays", x.trust(1, 7), 7);
        Check.due("the chance stays", x.draws(0, 0), 3);
        Check.due("the active one stays", x.count(8), 1);
        Check.due("slots stay", x.count(0), 33);
        Check.due("episodes stay", x.count(4) > 3 ? 1 : 0, 1);
        Check.due("begun stays", x.count(5), 13);
        Check.due("an estimate", x.estimate(0, 0), EpisodeProbes.FEW);
        x.steps(1);
        Check.due("a new one is counted", x.forget(), 1);
        Check.due("the sum of all", saw("01 10 10 101 001 001 111 111 111").forget(), 9);
    }

    private static void trust() {
        Probes x = new Probes();
        for (int test = 0; test < 4; test++) {
            Check.due("at first", x.trust(test, test), 9999);
            Check.due("then", x.trust(test, 9999), test);
            Check.due("again", x.trust(test, 0), 9999);
            Check.due("most below", x.trust(test, -1), EpisodeProbes.BAD);
            Check.due("most above", x.trust(test, 10000), EpisodeProbes.BAD);
            Check.due("as before", x.trust(test, 100 + test), 0);
        }
        for (int test = 0; test < 4; test++) Check.due("each has its own", x.trust(test, 5), 100 + test);
        Check.due("test below", x.trust(-1, 5), EpisodeProbes.BAD);
        Check.due("test above", x.trust(4, 5), EpisodeProbes.BAD);
    }

    /** That a test's number is due for these patterns. */
    private static void number(int test, int due, String patterns) {
        Probes x = saw(patterns);
        x.trust(test, due);
        Check.due("test " + test + " is met by " + patterns, x.agrees(test), 1);
        if (due == 0) return;
        x.trust(test, due - 1);
        Check.due("test " + test + " is not met by " + patterns, x.agrees(test), 0);
        for (int other = 0; other < 4; other++) {
            if (other != test) Check.due("test " + other + " is met with 9999", x.agrees(other), 1);
        }
    }

    private static void agrees() {
        number(0, 0, "00 00 11 000 011 001 110");
        number(0, 2, "01 01 01 10 000");
        number(0, 2, "10 10 10 01 001");
        number(0, 0, "01 10 010 101");
        number(1, 3, "010 010 101 00");
        number(1, 2, "101 101 001 110 011 01");
        number(1, 0, "000 001 011 100 110 111 01 10");
        number(2, 1, "001 001 100 01 010");
        number(2, 2, "100 100 011 10");
        number(2, 0, "001 100 011 010 101");
        number(3, 1, "011 011 110 01");
        number(3, 3, "110 110 110 10 100");
        number(3, 0, "011 110 001 010 101");
        Probes x = new Probes();
        Check.due("below", x.agrees(-1), EpisodeProbes.BAD);
        Check.due("above", x.agrees(4), EpisodeProbes.BAD);
        for (int test = 0; test < 4; test++) {
            x.trust(test, 0);
            Check.due("without patterns", x.agrees(test), 1);
        }
    }

    private static void estimate(String patterns, int which, long top, long bottom) {
        Probes x = saw(patterns);
        Check.due("estimate " + which + " of " + patterns, x.estimate(which, 0), top);
        Check.due("its denominator", x.estimate(which, 1), bottom);
    }

    private static void estimates() {
        estimate("00", 0, 0, 1);
        estimate("11 111", 0, 1, 1);
        estimate("10 10 10 01 00", 0, 3, 5);
        estimate("101 001 010", 0, 1, 3);
        estimate("10 01 00", 0, 1, 3);
        estimate("100 001 010 011 10 00", 0, 1, 3);
        estimate("110 101 00 01", 0, 1, 2);
        estimate("01", 1, 1, 1);
        estimate("10 11 00", 1, 3, 1);
        // R = 5, S = 3
        estimate("010 011 10 111 110 001", 1, 7, 3);
        estimate("01 10 10 10 11", 1, 3, 2);
        // U = 2, V = 1, R = 4, S = 3: (2 * 1 * 1 + 2 * 3) / (2 * 3)
        estimate("011 110 001 01 10 00", 2, 4, 3);
        estimate("011 011 01", 2, 1, 1);
        // U = 1, V = 3, R = 6, S = 2: (2 * 3 * 4 + 1 * 2) / (1 * 2)
        estimate("110 100 10 001 001 11 11 11", 2, 13, 1);
        Probes x = saw("01");
        Check.due("which below", x.estimate(-1, 0), EpisodeProbes.BAD);
        Check.due("which above", x.estimate(3, 0), EpisodeProbes.BAD);
        Check.due("what below", x.estimate(0, -1), EpisodeProbes.BAD);
        Check.due("what above", x.estimate(0, 2), EpisodeProbes.BAD);
    }

    private static void fewAndUnlike() {
        Probes x = new Probes();
        for (int which = 0; which <= 2; which++) {
            Check.due("FEW", x.estimate(which, 0), EpisodeProbes.FEW);
            Check.due("FEW", x.estimate(which, 1), EpisodeProbes.FEW);
            Check.due("BAD is before FEW", x.estimate(which, 2), EpisodeProbes.BAD);
        }
        x = saw("00 11 000 111");
        Check.due("A is 4", x.estimate(0, 1), 2);
        Check.due("S is 0", x.estimate(1, 0), EpisodeProbes.FEW);
        Check.due("U and S are 0", x.estimate(2, 0), EpisodeProbes.FEW);
        x = saw("01 001 100");
        Check.due("S is 2", x.estimate(1, 1), 1);
        Check.due("U is 0", x.estimate(2, 0), EpisodeProbes.FEW);
        x = saw("110 11");
        Check.due("U is 1, S is 0", x.estimate(2, 0), EpisodeProbes.FEW);
        unlike(0, "01 011");
        unlike(1, "010 011 10 01");
        unlike(2, "001 011 01 10");
        unlike(3, "011 01 10");
    }

    /** The patterns give each estimate, but not this test with the tolerance 0. */
    private static void unlike(int test, String patterns) {
        Probes x = saw(patterns);
        x.trust(test, 0);
        String before = Picture.of(x);
        for (int which = 0; which <= 2; which++) {
            Check.due("UNLIKE", x.estimate(which, 0), EpisodeProbes.UNLIKE);
            Check.due("UNLIKE", x.estimate(which, 1), EpisodeProbes.UNLIKE);
            Check.due("BAD is before UNLIKE", x.estimate(which, 2), EpisodeProbes.BAD);
        }
        Check.holds("an error changes nothing", Picture.of(x).equals(before));
        x.trust(test, 1);
        for (int which = 0; which <= 2; which++) Check.due("met", x.estimate(which, 1) > 0 ? 1 : 0, 1);
        // FEW is before UNLIKE: no triple is 011 or 110.
        x = saw("01 001");
        x.trust(0, 0);
        Check.due("FEW is before UNLIKE", x.estimate(2, 0), EpisodeProbes.FEW);
        Check.due("UNLIKE", x.estimate(1, 0), EpisodeProbes.UNLIKE);
    }

    private static void truth() {
        Probes x = Check.path("room 1; cross 2 2 0 2 1 1;");
        Check.due("no slot", x.truth(0, 0), EpisodeProbes.FEW);
        Check.due("no episode", x.truth(1, 0), EpisodeProbes.FEW);
        x.steps(6);
        Check.due("3 of 6 slots", x.truth(0, 0), 1);
        Check.due("3 of 6 slots", x.truth(0, 1), 2);
        Check.due("3 slots in 2 episodes", x.truth(1, 0), 3);
        Check.due("3 slots in 2 episodes", x.truth(1, 1), 2);
        x.steps(2);
        Check.due("5 of 8 slots", x.truth(0, 0) * 10 + x.truth(0, 1), 58);
        Check.due("5 slots in 3 episodes", x.truth(1, 0) * 10 + x.truth(1, 1), 53);
        Check.due("which below", x.truth(-1, 0), EpisodeProbes.BAD);
        Check.due("which above", x.truth(2, 0), EpisodeProbes.BAD);
        Check.due("what below", x.truth(0, -1), EpisodeProbes.BAD);
        Check.due("what above", x.truth(1, 2), EpisodeProbes.BAD);
        x = new Probes();
        Check.due("BAD is before FEW", x.truth(0, 2), EpisodeProbes.BAD);
        x.steps(7);
        Check.due("0 of 7 slots is 0/1", x.truth(0, 0) * 10 + x.truth(0, 1), 1);
        Check.due("no episode", x.truth(1, 1), EpisodeProbes.FEW);
    }
}
