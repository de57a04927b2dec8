/** The boundaries of ESTIMATES and of promises 16 to 21, each sentence on both sides. */
public final class EstimateEdgesTest {
    private static final int BAD = EpisodeProbes.BAD, FEW = EpisodeProbes.FEW, UNLIKE = EpisodeProbes.UNLIKE;

    public static void main(String[] args) {
        patternRange();
        forgets();
        trustRange();
        agreesRange();
        tolerances();
        whatEachTestCounts();
        estimateRange();
        fewOfFrequency();
        fewOfDuration();
        fewOfImproved();
        unlike();
        lowestTerms();
        truthRange();
        truthFew();
        Check.end("EstimateEdgesTest");
    }

    /** One experiment for each pattern, one after the other: with room for 1, a probe behind a packet is lost. */
    private static Probes saw(String patterns) {
        StringBuilder text = new StringBuilder("room 1;cross 0 ");
        for (char bit : patterns.replace(" ", "").toCharArray()) text.append(bit).append(' ');
        Probes x = Check.path(text.append(';').toString());
        x.steps(1);
        if (patterns.isEmpty()) return x;
        for (String pattern : patterns.split(" ")) {
            x.asks(pattern.length());
            x.steps(pattern.length());
        }
        return x;
    }

    private static void patternRange() {
        Check.says("pattern: BAD if kind or pattern is out of range, 2 and 0 to 3, 3 and 0 to 7");
        for (int kind : new int[] {1, 4, 0, -1, 5, 8, 34, Integer.MIN_VALUE, Integer.MAX_VALUE}) {
            for (int pattern : new int[] {0, 1, 3}) noPattern(kind, pattern);
        }
        for (int pattern : new int[] {-1, 4, 5, 7, 8, Integer.MIN_VALUE, Integer.MAX_VALUE}) noPattern(2, pattern);
        for (int pattern : new int[] {-1, 8, 9, 16, Integer.MIN_VALUE, Integer.MAX_VALUE}) noPattern(3, pattern);
        for (int kind = 2; kind <= 3; kind++) {
            for (int pattern = 0; pattern < 1 << kind; pattern++) {
                int k = kind, bits = pattern;
                String text = Integer.toBinaryString((1 << kind) + pattern).substring(1);
                Check.same(saw(text), 1, x -> x.pattern(k, bits));
                Check.same(new Probes(), 0, x -> x.pattern(k, bits));
            }
        }
        Check.says("pattern: pairs and triples are counted apart");
        Check.same(saw("11 011 11"), 2, x -> x.pattern(2, 3));
        Check.same(saw("11 011 11"), 1, x -> x.pattern(3, 3));
        Check.says("pattern: an experiment that is not complete is not counted");
        Probes x = new Probes();
        x.asks(3);
        x.steps(2);
        Check.same(x, 0, p -> p.pattern(3, 0));
        x.steps(1);
        Check.same(x, 1, p -> p.pattern(3, 0));
    }

    private static void noPattern(int kind, int pattern) {
        Check.refused(Check.busy(), BAD, x -> x.pattern(kind, pattern));
    }

    private static void forgets() {
        Check.says("forget: returns their sum before; 0 if there are none");
        Check.same(new Probes(), 0, x -> x.forget());
        String all = "00 01 10 11 000 001 010 011 100 101 110 111";
        for (String one : all.split(" ")) {
            Probes x = saw(one);
            Check.answers(x, 1, p -> p.forget());
            Check.same(x, 0, p -> p.forget());
            Check.due(one + " is 0", x.pattern(one.length(), Integer.parseInt(one, 2)), 0);
        }
        Check.answers(saw(all), 12, x -> x.forget());
        Check.says("forget: nothing else changes");
        Probes x = Check.busy(), y = Check.busy();
        Check.holds("there are patterns", x.forget() > 0);
        for (int what = 0; what <= 13; what++) Check.due("count " + what, x.count(what), y.count(what));
        for (int what = 0; what <= 2; what++) {
            Check.due("under", x.under(0, what), y.under(0, what));
            Check.due("delay", x.delay(what), y.delay(what));
        }
        for (int test = 0; test < 4; test++) Check.due("tolerance", x.twin().trust(test, 0), 3 + test);
        Check.due("chance", x.twin().draws(0, 0), 5);
        Check.due("path", x.twin().path(), y.twin().path());
        Check.due("share", x.share(0, 1), 3);
        Check.due("truth", x.truth(0, 0), y.truth(0, 0));
        Check.says("forget: an active experiment is counted when it is complete");
        x = saw("01");
        x.asks(2);
        x.steps(1);
        Check.answers(x, 1, p -> p.forget());
        x.steps(1);
        Check.answers(x, 1, p -> p.forget());
    }

    private static void trustRange() {
        Check.says("trust: BAD if test or most is out of range, 0 to 3 and 0 to 9999");
        for (int test : new int[] {-1, 4, 5, Integer.MIN_VALUE, Integer.MAX_VALUE}) {
            for (int most : new int[] {0, 5, 9999, 10000}) Check.refused(Check.busy(), BAD, x -> x.trust(test, most));
        }
        for (int most : new int[] {-1, 10000, 10001, Integer.MIN_VALUE, Integer.MAX_VALUE}) {
            for (int test = 0; test < 4; test++) {
                int tested = test;
                Check.refused(Check.busy(), BAD, x -> x.trust(tested, most));
            }
        }
        Check.says("trust: returns the previous tolerance, 9999 at first");
        for (int test = 0; test < 4; test++) {
            Probes x = new Probes();
            Check.due("at first", x.trust(test, 0), 9999);
            Check.due("then", x.trust(test, 9999), 0);
            Check.due("then", x.trust(test, 1), 9999);
            Check.due("then", x.trust(test, 9998), 1);
            Check.due("then", x.trust(test, 0), 9998);
            for (int other = 0; other < 4; other++) if (other != test) Check.due("another one", x.trust(other, 0), 9999);
        }
    }

    private static void agreesRange() {
        Check.says("agrees: BAD if test is out of range, 0 to 3");
        for (int test : new int[] {-1, 4, 5, Integer.MIN_VALUE, Integer.MAX_VALUE}) {
            Check.refused(Check.busy(), BAD, x -> x.agrees(test));
            Check.refused(new Probes(), BAD, x -> x.agrees(test));
        }
        for (int test = 0; test < 4; test++) {
            int tested = test;
            Check.same(new Probes(), 1, x -> x.agrees(tested));
        }
    }

    /** The number of a test is just this one: the tolerance that is just reached meets it, one less does not. */
    private static void number(int test, int number, String patterns) {
        Probes x = saw(patterns);
        for (int most = 0; most <= number + 1; most++) {
            x.trust(test, most);
            Check.due("test " + test + " of " + patterns + " with the tolerance " + most, x.agrees(test), most >= number ? 1 : 0);
        }
    }

    private static void tolerances() {
        Check.says("a test is met if its number is at most its tolerance");
        number(0, 0, "00 11");
        number(0, 1, "01");
        number(0, 1, "10");
        number(0, 0, "01 10");
        number(0, 3, "01 10 01 01 01");
        number(0, 3, "10 10 10 10 01");
        number(1, 0, "000 111");
        number(1, 1, "010");
        number(1, 1, "101");
        number(1, 2, "010 101");
        number(1, 4, "010 101 101 101");
        number(2, 1, "001");
        number(2, 1, "100");
        number(2, 0, "001 100");
        number(2, 2, "001 001 100 001");
        number(2, 2, "100 001 100 100");
        number(3, 1, "011");
        number(3, 1, "110");
        number(3, 0, "011 110");
        number(3, 2, "011 011 110 011");
        number(3, 2, "110 011 110 110");
        Check.says("a test is met with the tolerance 9999 at first");
        Probes x = saw("01 01 010 010 001 001 011 011");
        for (int test = 0; test < 4; test++) Check.due("test " + test, x.agrees(test), 1);
    }

    private static void whatEachTestCounts() {
        Check.says("pairs alone in test 0, triples alone in tests 1 to 3, and no other pattern");
        String[] counting = {"01 10", "010 101", "001 100", "011 110"};
        for (int test = 0; test < 4; test++) {
            for (String pattern : "00 01 10 11 000 001 010 011 100 101 110 111".split(" ")) {
                number(test, (" " + counting[test] + " ").contains(" " + pattern + " ") ? 1 : 0, pattern);
            }
        }
    }

    private static void estimateRange() {
        Check.says("estimate: BAD if which or what is out of range, 0 to 2 and 0 to 1");
        for (int which : new int[] {-1, 3, 4, Integer.MIN_VALUE, Integer.MAX_VALUE}) {
            for (int what = -1; what <= 2; what++) noEstimate(which, what);
        }
        for (int what : new int[] {-1, 2, 3, Integer.MIN_VALUE, Integer.MAX_VALUE}) {
            for (int which = -1; which <= 3; which++) noEstimate(which, what);
        }
    }

    private static void noEstimate(int which, int what) {
        Check.refused(saw("011 01 10 110"), BAD, x -> x.estimate(which, what));
        Check.refused(new Probes(), BAD, x -> x.estimate(which, what));
        Probes unlike = saw("011 01");
        unlike.trust(0, 0);
        Check.refused(unlike, BAD, x -> x.estimate(which, what));
    }

    private static void few(int which, String patterns) {
        Check.refused(saw(patterns), FEW, x -> x.estimate(which, 0));
        Check.refused(saw(patterns), FEW, x -> x.estimate(which, 1));
    }

    private static void estimate(int which, String patterns, long top, long bottom) {
        Check.same(saw(patterns), top, x -> x.estimate(which, 0));
        Check.same(saw(patterns), bottom, x -> x.estimate(which, 1));
    }

    private static void fewOfFrequency() {
        Check.says("estimate: FEW if A, how many pairs and triples there are, is 0");
        few(0, "");
        estimate(0, "00", 0, 1);
        estimate(0, "000", 0, 1);
        estimate(0, "11", 1, 1);
        estimate(0, "100", 1, 1);
        estimate(0, "011", 0, 1);
        Check.says("F is how many begin with 1");
        for (String pattern : "00 01 10 11 000 001 010 011 100 101 110 111".split(" ")) {
            estimate(0, pattern, pattern.charAt(0) - '0', 1);
            estimate(0, pattern + " 00 11", pattern.charAt(0) == '1' ? 2 : 1, 3);
        }
        Probes x = new Probes();
        x.asks(2);
        x.steps(1);
        Check.refused(x, FEW, p -> p.estimate(0, 0));
        x.steps(1);
        Check.same(x, 0, p -> p.estimate(0, 0));
        x.forget();
        Check.refused(x, FEW, p -> p.estimate(0, 0));
    }

    private static void fewOfDuration() {
        Check.says("estimate: FEW if S, how many are 01 or 10, is 0");
        few(1, "");
        few(1, "00");
        few(1, "11");
        few(1, "00 11 000 001 110 111");
        estimate(1, "01", 1, 1);
        estimate(1, "10", 1, 1);
        estimate(1, "010", 1, 1);
        estimate(1, "011", 1, 1);
        estimate(1, "100", 1, 1);
        estimate(1, "101", 1, 1);
        Check.says("R is how many are not 00: (2 * R - S) / S");
        for (String pattern : "11 110 111".split(" ")) estimate(1, "01 " + pattern, 3, 1);
        for (String pattern : "00 000 001".split(" ")) estimate(1, "01 " + pattern, 1, 1);
        estimate(1, "01 10 11", 2, 1);
        estimate(1, "01 10 010 11", 5, 3);
    }

    private static void fewOfImproved() {
        Check.says("estimate: FEW if U * S is 0: U is how many triples are 011 or 110");
        few(2, "");
        few(2, "01 10");
        few(2, "01 10 000 001 010 100 101 111");
        estimate(2, "01 011", 1, 1);
        estimate(2, "01 110", 1, 1);
        estimate(2, "011", 1, 1);
        few(2, "110");
        few(2, "110 11 00 001 111");
        estimate(2, "110 10", 1, 1);
        Check.says("V is how many triples are 001 or 100: (2 * V * (R - S) + U * S) / (U * S)");
        // U = 1, R - S = 1, S = 1: 2 * V + 1.
        estimate(2, "110 01", 1, 1);
        estimate(2, "110 01 001", 3, 1);
        estimate(2, "110 01 001 001", 5, 1);
        // With 100, S = 2: (2 * 1 * 1 + 1 * 2) / (1 * 2).
        estimate(2, "110 01 100", 2, 1);
        // U = 2, S = 2, R - S = 1, V = 1: (2 + 4) / 4.
        estimate(2, "110 011 01 001", 3, 2);
        // A pair does not count for U or V.
        few(2, "01 10 11");
    }

    private static void unlike() {
        Check.says("estimate: UNLIKE if some test is not met");
        String patterns = "01 010 001 011";
        for (int test = 0; test < 4; test++) {
            for (int which = 0; which <= 2; which++) {
                for (int what = 0; what <= 1; what++) {
                    int w = which, part = what;
                    Probes x = saw(patterns);
                    for (int other = 0; other < 4; other++) x.trust(other, other == test ? 0 : 1);
                    Check.refused(x, UNLIKE, p -> p.estimate(w, part));
                    x.trust(test, 1);
                    Check.holds("all tests are just met", x.estimate(w, part) > 0 || w == 0);
                    for (int other = 0; other < 4; other++) x.trust(other, 0);
                    Check.refused(x, UNLIKE, p -> p.estimate(w, part));
                }
            }
        }
        Check.says("estimate: truth, patterns and expected do not ask the tests");
        Probes x = Check.chain("10", 6, 6, 3, 9);
        Check.typed(x, "room 1;cross 0 1;").path();
        for (int test = 0; test < 4; test++) x.trust(test, 0);
        x.asks(2);
        x.steps(2);
        Check.due("estimate", x.estimate(1, 0), UNLIKE);
        Check.due("expected", x.expected(1, 0), 2);
        Check.due("truth", x.truth(0, 1), 2);
        Check.due("pattern", x.pattern(2, 1), 1);
    }

    private static void lowestTerms() {
        Check.says("fractions are in lowest terms with a positive denominator, 0 is 0/1");
        estimate(0, "11 00 11 00", 1, 2);
        estimate(0, "11 10 100 000", 3, 4);
        estimate(0, "11 11 111 111", 1, 1);
        estimate(0, "00 00 000 011", 0, 1);
        estimate(1, "01 10 11 11", 3, 1);
        estimate(1, "01 10 01 10 11 11", 2, 1);
        Probes x = Check.path("room 1;cross 2 0 0 2;");
        x.steps(4);
        Check.due("2 of 4 slots", x.truth(0, 0) * 10 + x.truth(0, 1), 12);
        Check.due("2 slots in 2 episodes", x.truth(1, 0) * 10 + x.truth(1, 1), 11);
    }

    private static void truthRange() {
        Check.says("truth: BAD if which or what is out of range, 0 to 1 and 0 to 1");
        for (int which : new int[] {-1, 2, 3, Integer.MIN_VALUE, Integer.MAX_VALUE}) {
            for (int what = -1; what <= 2; what++) noTruth(which, what);
        }
        for (int what : new int[] {-1, 2, 3, Integer.MIN_VALUE, Integer.MAX_VALUE}) {
            for (int which = -1; which <= 2; which++) noTruth(which, what);
        }
    }

    private static void noTruth(int which, int what) {
        Check.refused(Check.busy(), BAD, x -> x.truth(which, what));
        Check.refused(new Probes(), BAD, x -> x.truth(which, what));
    }

    private static void truthFew() {
        Check.says("truth: FEW if the denominator is 0: no slot has passed, or there is no episode");
        for (int what = 0; what <= 1; what++) {
            int part = what;
            Check.refused(new Probes(), FEW, x -> x.truth(0, part));
            Check.refused(new Probes(), FEW, x -> x.truth(1, part));
            Probes x = Check.path("room 1;cross 0 1 2;");
            Check.refused(x, FEW, p -> p.truth(0, part));
            x.steps(1);
            Check.same(x, part, p -> p.truth(0, part));
            Check.refused(x, FEW, p -> p.truth(1, part));
            x.steps(1);
            Check.same(x, part, p -> p.truth(0, part));
            Check.refused(x, FEW, p -> p.truth(1, part));
            x.steps(1);
            Check.same(x, part == 0 ? 1 : 3, p -> p.truth(0, part));
            Check.same(x, 1, p -> p.truth(1, part));
        }
        Check.says("truth: an episode that is not over counts, and so do probes that are lost");
        Probes x = Check.path("room 1;plan 2 0 0 0 0;cross 1 0 0 1 1;");
        x.steps(1);
        Check.due("1 of 1 slots", x.truth(0, 0) * 10 + x.truth(0, 1), 11);
        Check.due("1 slot in 1 episode", x.truth(1, 0) * 10 + x.truth(1, 1), 11);
        x.steps(4);
        Check.due("1 of 5 slots", x.truth(0, 0) * 10 + x.truth(0, 1), 15);
        Check.says("truth: all slots lossy");
        x = Check.passed(Check.path("room 1;cross 2;"), 2000);
        Check.due("2000 of 2000", x.truth(0, 0) * 10 + x.truth(0, 1), 11);
        Check.due("2000 slots", x.truth(1, 0), 2000);
        Check.due("1 episode", x.truth(1, 1), 1);
    }
}
