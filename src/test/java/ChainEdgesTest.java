/** The boundaries of CHAINS and of promises 22 to 28, each sentence on both sides. */
public final class ChainEdgesTest {
    private static final int BAD = EpisodeProbes.BAD, FULL = EpisodeProbes.FULL, STATE = EpisodeProbes.STATE, FEW = EpisodeProbes.FEW,
            OVER = EpisodeProbes.OVER;

    public static void main(String[] args) {
        stateRange();
        fiveStates();
        weightRange();
        weightStates();
        empties();
        noState();
        oneState();
        sumsOfTwelve();
        reached();
        soundAgain();
        shareRange();
        chanceRange();
        expectedRange();
        expectedOfBoth();
        expectedAnew();
        expectedFew();
        lastsRange();
        lastsFew();
        lastsOver();
        lastsSmallestDenominator();
        lowestTerms();
        Check.end("ChainEdgesTest");
    }

    private static Probes two() {
        return Check.chain("10", 6, 6, 3, 9);
    }

    private static Probes five() {
        return Check.chain("10101", 10, 2, 0, 0, 0, 1, 9, 2, 0, 0, 0, 1, 9, 2, 0, 0, 0, 1, 9, 2, 0, 0, 0, 1, 11);
    }

    private static void stateRange() {
        Check.says("state: BAD if lossy is not 0 or 1");
        for (int lossy : new int[] {-1, 2, 3, 256, Integer.MIN_VALUE, Integer.MAX_VALUE}) {
            Check.refused(new Probes(), BAD, x -> x.state(lossy));
            Check.refused(Check.busy(), BAD, x -> x.state(lossy));
        }
        for (int lossy = 0; lossy <= 1; lossy++) {
            Probes x = new Probes();
            Check.due("state(" + lossy + ")", x.state(lossy), 0);
            x.weight(0, 0, 12);
            Check.due("all is lossy", x.chance(2, 3, 0), lossy);
            Check.due("nothing is lossy", x.chance(2, 0, 0), 1 - lossy);
        }
    }

    private static void fiveStates() {
        Check.says("state: FULL if there are five states");
        Probes x = new Probes();
        for (int state = 0; state < 5; state++) {
            Check.due("count(12)", x.count(12), state);
            Check.due("state", x.state(state % 2), state);
        }
        Check.refused(x, FULL, p -> p.state(0));
        Check.refused(x, FULL, p -> p.state(1));
        Check.refused(five(), FULL, p -> p.state(0));
        Check.due("count(12)", x.count(12), 5);
        Check.due("empty", x.empty(), 5);
        Check.due("state after empty", x.state(1), 0);
    }

    private static void weightRange() {
        Check.says("weight: BAD if weight is out of range, 0 to 12");
        for (int weight : new int[] {-1, 13, 14, 24, Integer.MIN_VALUE, Integer.MAX_VALUE}) {
            Check.refused(two(), BAD, x -> x.weight(0, 0, weight));
            Check.refused(two(), BAD, x -> x.weight(1, 0, weight));
        }
        Check.says("weight: returns the previous weight, 0 at first");
        Probes x = new Probes();
        for (int state = 0; state < 5; state++) x.state(0);
        for (int i = 0; i < 25; i++) Check.due("at first", x.weight(i / 5, i % 5, i % 13), 0);
        for (int i = 0; i < 25; i++) Check.due("then", x.weight(i / 5, i % 5, 12), i % 13);
        for (int i = 0; i < 25; i++) Check.due("then", x.weight(i / 5, i % 5, 0), 12);
        for (int i = 0; i < 25; i++) Check.due("then", x.weight(i / 5, i % 5, 0), 0);
    }

    private static void weightStates() {
        Check.says("weight: BAD if there is no such state");
        for (int state : new int[] {-1, 2, 3, 4, 5, 6, 25, Integer.MIN_VALUE, Integer.MAX_VALUE}) {
            for (int other = 0; other <= 2; other++) noWeight(two(), state, other);
        }
        noWeight(new Probes(), 0, 0);
        noWeight(five(), 5, 0);
        noWeight(five(), 0, 5);
        noWeight(five(), -1, 4);
        noWeight(five(), 4, -1);
        for (int states = 1; states <= 4; states++) {
            Probes x = new Probes();
            for (int i = 0; i < states; i++) x.state(1);
            noWeight(x, states, 0);
            Check.due("the last one", x.weight(states - 1, states - 1, 3), 0);
            Check.due("one more state", x.state(0), states);
            Check.due("its weights are 0", x.weight(states, states, 2) + x.weight(states, 0, 2) + x.weight(0, states, 2), 0);
        }
        Check.says("weight: to may equal from");
        Check.answers(two(), 9, x -> x.weight(1, 1, 0));
    }

    private static void noWeight(Probes x, int state, int other) {
        Check.refused(x, BAD, p -> p.weight(state, other, 5));
        Check.refused(x, BAD, p -> p.weight(other, state, 5));
    }

    private static void empties() {
        Check.says("empty: returns how many states there were");
        Check.same(new Probes(), 0, x -> x.empty());
        for (int states = 1; states <= 5; states++) {
            Probes x = new Probes();
            for (int i = 0; i < states; i++) x.state(1);
            for (int i = 0; i < states * states; i++) x.weight(i / states, i % states, 7);
            Check.due("empty of " + states, x.empty(), states);
            Check.due("empty again", x.empty(), 0);
            Check.due("count(12)", x.count(12), 0);
            for (int i = 0; i < 5; i++) Check.due("state", x.state(0), i);
            for (int i = 0; i < 25; i++) Check.due("all weights are removed", x.weight(i / 5, i % 5, 1), 0);
        }
        Check.says("empty: nothing else changes");
        Probes x = Check.busy(), y = Check.busy();
        Check.due("empty", x.empty(), 2);
        for (int what = 0; what <= 13; what++) Check.due("count", x.count(what), what == 12 ? 0 : y.count(what));
        Check.due("path", x.path(), y.path());
        Check.says("empty: a state that was lossy is not so any more");
        x = two();
        x.empty();
        x.state(0);
        x.state(0);
        for (int i = 0; i < 4; i++) x.weight(i / 2, i % 2, 6);
        Check.due("the pattern 00", x.chance(2, 0, 0) * 10 + x.chance(2, 0, 1), 11);
    }

    /** All that needs a sound chain is refused with STATE, and nothing changes. */
    private static void unsound(Probes x) {
        if (x.count(12) > 0) Check.refused(x, STATE, p -> p.share(0, 0));
        if (x.count(12) > 0) Check.refused(x, STATE, p -> p.share(p.count(12) - 1, 1));
        for (int asked = 0; asked <= 1; asked++) {
            int what = asked;
            Check.refused(x, STATE, p -> p.chance(2, 0, what));
            Check.refused(x, STATE, p -> p.chance(3, 7, what));
            for (int which = 0; which <= 2; which++) {
                int w = which;
                Check.refused(x, STATE, p -> p.expected(w, what));
            }
            Check.refused(x, STATE, p -> p.lasts(1, what));
            Check.refused(x, STATE, p -> p.lasts(40, what));
        }
    }

    private static void sound(Probes x) {
        for (int state = 0; state < x.count(12); state++) Check.holds("a share", x.share(state, 1) > 0);
        Check.holds("a probability", x.chance(2, 0, 1) > 0 && x.chance(3, 0, 1) > 0);
        Check.holds("a frequency", x.expected(0, 1) > 0);
        Check.holds("no error of the chain", x.expected(1, 0) != STATE && x.expected(2, 0) != STATE && x.lasts(1, 0) != STATE);
    }

    private static void noState() {
        Check.says("the chain is sound if it has at least one state");
        unsound(new Probes());
        Check.refused(new Probes(), BAD, x -> x.share(0, 0));
        Probes x = two();
        x.empty();
        unsound(x);
        Check.refused(x, BAD, p -> p.share(0, 0));
    }

    private static void oneState() {
        Check.says("a chain of one state");
        for (int lossy = 0; lossy <= 1; lossy++) {
            Probes x = new Probes();
            x.state(lossy);
            unsound(x);
            for (int weight : new int[] {11, 1, 0}) {
                x.weight(0, 0, weight);
                unsound(x);
            }
            x.weight(0, 0, 12);
            sound(x);
            Check.due("share", x.share(0, 0) * 10 + x.share(0, 1), 11);
            for (int bits = 0; bits < 4; bits++) Check.due("pair " + bits, x.chance(2, bits, 0), bits == 3 * lossy ? 1 : 0);
            for (int bits = 0; bits < 8; bits++) Check.due("triple " + bits, x.chance(3, bits, 0), bits == 7 * lossy ? 1 : 0);
            for (int bits = 0; bits < 8; bits++) Check.due("its denominator", x.chance(3, bits, 1), 1);
            Check.due("expected frequency", x.expected(0, 0), lossy);
            Check.due("expected frequency", x.expected(0, 1), 1);
            Check.refused(x, FEW, p -> p.expected(1, 0));
            Check.refused(x, FEW, p -> p.expected(2, 1));
            Check.refused(x, FEW, p -> p.lasts(1, 0));
            Check.refused(x, FEW, p -> p.lasts(40, 1));
        }
    }

    private static void sumsOfTwelve() {
        Check.says("the weights from each state sum to 12");
        for (int state = 0; state < 5; state++) {
            Probes x = five();
            sound(x);
            int previous = x.weight(state, state, 0);
            x.weight(state, state, previous - 1);
            unsound(x);
            x.weight(state, state, previous + 1);
            unsound(x);
            x.weight(state, state, previous);
            sound(x);
        }
        for (int state = 0; state < 2; state++) {
            for (int to = 0; to < 2; to++) {
                Probes x = two();
                int previous = x.weight(state, to, 0);
                unsound(x);
                x.weight(state, to, 12);
                unsound(x);
                x.weight(state, to, previous + 1);
                unsound(x);
                x.weight(state, to, previous);
                sound(x);
            }
        }
        Check.says("from each state, not to each");
        sound(Check.chain("10", 11, 1, 12, 0));
        sound(Check.chain("100", 0, 6, 6, 0, 6, 6, 12, 0, 0));
        unsound(Check.chain("100", 0, 4, 8, 0, 4, 4, 12, 4, 0));
        Check.says("all to 12, not all together");
        unsound(Check.chain("10", 6, 5, 4, 9));
        unsound(Check.chain("10", 7, 6, 3, 8));
    }

    private static void reached() {
        Check.says("each state can be reached from each other one by positive weights");
        unsound(Check.chain("10", 12, 0, 0, 12));
        unsound(Check.chain("10", 12, 0, 1, 11));
        unsound(Check.chain("10", 11, 1, 0, 12));
        sound(Check.chain("10", 11, 1, 1, 11));
        sound(Check.chain("10", 0, 12, 12, 0));
        // A ring of n states, and the same ring that is cut at one place.
        for (int states = 2; states <= 5; states++) {
            for (int turn = 1; turn < states; turn++) {
                if (states == 4 && turn == 2) continue;
                Probes x = ring(states, turn);
                sound(x);
                for (int cut = 0; cut < states; cut++) {
                    Probes y = ring(states, turn);
                    y.weight(cut, (cut + turn) % states, 0);
                    y.weight(cut, cut, 12);
                    unsound(y);
                    y.weight(cut, cut, 11);
                    y.weight(cut, (cut + turn) % states, 1);
                    sound(y);
                }
            }
        }
        // Two rings that do not meet, and that meet in one direction only.
        Probes x = Check.chain("1010", 0, 12, 0, 0, 12, 0, 0, 0, 0, 0, 0, 12, 0, 0, 12, 0);
        unsound(x);
        x.weight(1, 0, 11);
        x.weight(1, 2, 1);
        unsound(x);
        x.weight(3, 2, 11);
        x.weight(3, 1, 1);
        sound(x);
        // One state that can't be reached, and one that can't be left.
        unsound(Check.chain("10101", 12, 0, 0, 0, 0, 3, 3, 3, 3, 0, 3, 3, 3, 3, 0, 3, 3, 3, 3, 0, 3, 3, 3, 3, 0));
        unsound(Check.chain("10101", 3, 3, 3, 3, 0, 3, 3, 3, 3, 0, 3, 3, 3, 3, 0, 3, 3, 3, 3, 0, 3, 3, 3, 3, 0));
        unsound(Check.chain("10101", 3, 3, 3, 2, 1, 3, 3, 3, 3, 0, 3, 3, 3, 3, 0, 3, 3, 3, 3, 0, 0, 0, 0, 0, 12));
        sound(Check.chain("10101", 3, 3, 3, 2, 1, 3, 3, 3, 3, 0, 3, 3, 3, 3, 0, 3, 3, 3, 3, 0, 0, 0, 0, 12, 0));
    }

    private static Probes ring(int states, int turn) {
        Probes x = new Probes();
        for (int state = 0; state < states; state++) x.state(state % 2);
        for (int state = 0; state < states; state++) x.weight(state, (state + turn) % states, 12);
        return x;
    }

    private static void soundAgain() {
        Check.says("a state that is added makes the chain unsound, until it has weights");
        Probes x = two();
        sound(x);
        x.state(1);
        unsound(x);
        x.weight(2, 0, 12);
        unsound(x);
        x.weight(1, 1, 8);
        x.weight(1, 2, 1);
        sound(x);
        Check.due("share of the new state", x.share(2, 0), 1);
    }

    private static void shareRange() {
        Check.says("share: BAD if there is no such state or what is not 0 or 1");
        for (int state : new int[] {-1, 2, 3, 4, 5, Integer.MIN_VALUE, Integer.MAX_VALUE}) {
            for (int what = -1; what <= 2; what++) noShare(two(), state, what);
        }
        for (int what : new int[] {-1, 2, 3, Integer.MIN_VALUE, Integer.MAX_VALUE}) {
            for (int state = 0; state <= 1; state++) noShare(two(), state, what);
            noShare(five(), 4, what);
        }
        noShare(five(), 5, 0);
        Check.same(five(), 16, x -> x.share(4, 0));
        Check.same(five(), 31, x -> x.share(4, 1));
        Check.same(five(), 1, x -> x.share(0, 0));
    }

    private static void noShare(Probes x, int state, int what) {
        Check.refused(x, BAD, p -> p.share(state, what));
    }

    private static void chanceRange() {
        Check.says("chance: BAD if an argument is out of range, 2 and 0 to 3, 3 and 0 to 7, 0 and 1");
        for (int kind : new int[] {0, 1, 4, -1, 34, 35, Integer.MIN_VALUE, Integer.MAX_VALUE}) noChance(kind, 0, 0);
        for (int bits : new int[] {-1, 4, 7, 8, Integer.MIN_VALUE, Integer.MAX_VALUE}) noChance(2, bits, 0);
        for (int bits : new int[] {-1, 8, 9, Integer.MIN_VALUE, Integer.MAX_VALUE}) noChance(3, bits, 1);
        for (int what : new int[] {-1, 2, 3, Integer.MIN_VALUE, Integer.MAX_VALUE}) {
            noChance(2, 0, what);
            noChance(2, 3, what);
            noChance(3, 7, what);
            noChance(2, 4, what);
        }
        Check.says("chance: the first bit is the highest");
        // From 0 to 1 to 2 to 0: lossy, lossy, not.
        Probes x = Check.chain("110", 0, 12, 0, 0, 0, 12, 12, 0, 0);
        long[] pairs = {0, 1, 1, 1}, triples = {0, 0, 0, 1, 0, 1, 1, 0};
        for (int bits = 0; bits < 4; bits++) Check.due("pair " + bits, x.chance(2, bits, 0), pairs[bits]);
        for (int bits = 0; bits < 8; bits++) Check.due("triple " + bits, x.chance(3, bits, 0), triples[bits]);
        x = Check.chain("1000", 0, 12, 0, 0, 0, 0, 12, 0, 0, 0, 0, 12, 12, 0, 0, 0);
        triples = new long[] {1, 1, 1, 0, 1, 0, 0, 0};
        for (int bits = 0; bits < 8; bits++) {
            Check.due("triple " + bits, x.chance(3, bits, 0), triples[bits]);
            Check.due("its denominator", x.chance(3, bits, 1), triples[bits] == 1 ? 4 : 1);
        }
    }

    private static void noChance(int kind, int bits, int what) {
        Check.refused(two(), BAD, x -> x.chance(kind, bits, what));
        Check.refused(new Probes(), BAD, x -> x.chance(kind, bits, what));
    }

    private static void expectedRange() {
        Check.says("expected: BAD if which or what is out of range, 0 to 2 and 0 to 1");
        for (int which : new int[] {-1, 3, 4, Integer.MIN_VALUE, Integer.MAX_VALUE}) {
            for (int what = -1; what <= 2; what++) noExpected(which, what);
        }
        for (int what : new int[] {-1, 2, 3, Integer.MIN_VALUE, Integer.MAX_VALUE}) {
            for (int which = -1; which <= 3; which++) noExpected(which, what);
        }
    }

    private static void noExpected(int which, int what) {
        Check.refused(two(), BAD, x -> x.expected(which, what));
        Check.refused(new Probes(), BAD, x -> x.expected(which, what));
        Check.refused(Check.chain("1", 12), BAD, x -> x.expected(which, what));
    }

    private static void expects(Probes x, String due) {
        StringBuilder all = new StringBuilder();
        for (int which = 0; which <= 2; which++) {
            all.append(which == 0 ? "" : " ").append(x.expected(which, 0)).append('/').append(x.expected(which, 1));
        }
        Check.holds("expected " + due + ", not " + all, all.toString().equals(due));
    }

    private static void expectedOfBoth() {
        Check.says("expected: the numbers of pairs and of triples, all 12 patterns, are replaced by their probabilities");
        // Half of the pairs and 3/8 of the triples are zeros.
        expects(two(), "1/3 2/1 5/2");
        expects(Check.chain("10", 9, 3, 3, 9), "1/2 4/1 4/1");
        expects(Check.chain("01", 9, 3, 3, 9), "1/2 4/1 4/1");
        expects(Check.chain("10", 9, 3, 6, 6), "2/3 4/1 3/1");
        expects(Check.chain("110", 0, 12, 0, 0, 0, 12, 12, 0, 0), "2/3 2/1 1/1");
        expects(Check.chain("1000", 0, 12, 0, 0, 0, 0, 12, 0, 0, 0, 0, 12, 12, 0, 0, 0), "1/4 1/1 -4/-4");
        expects(Check.chain("1100", 0, 12, 0, 0, 0, 0, 12, 0, 0, 0, 0, 12, 12, 0, 0, 0), "1/2 2/1 2/1");
    }

    private static void expectedAnew() {
        Check.says("expected: of the chain as it is, whatever it was before");
        Probes x = two();
        expects(x, "1/3 2/1 5/2");
        expects(x, "1/3 2/1 5/2");
        x.weight(1, 0, 6);
        x.weight(1, 1, 6);
        expects(x, "1/2 2/1 2/1");
        x.weight(0, 0, 0);
        x.weight(0, 1, 12);
        expects(x, "1/3 1/1 -4/-4");
        x.empty();
        x.state(1);
        x.weight(0, 0, 12);
        expects(x, "1/1 -4/-4 -4/-4");
        Check.due("share", x.share(0, 1), 1);
        Check.due("the pattern 11", x.chance(2, 3, 0), 1);
        x.weight(0, 0, 11);
        Check.due("lasts", x.lasts(1, 0), STATE);
        x.state(0);
        x.weight(0, 1, 1);
        x.weight(1, 0, 12);
        Check.due("share", x.share(0, 0), 12);
        Check.due("lasts", x.lasts(2, 0), 11);
        Check.due("lasts", x.lasts(2, 1), 12);
        Check.due("lasts", x.lasts(1, 1), 1);
    }

    private static void expectedFew() {
        Check.says("expected: FEW if the denominator of the formula is 0");
        for (int asked = 0; asked <= 1; asked++) {
            int what = asked;
            // All states are lossy, or none is: S is 0.
            for (String lossy : new String[] {"11", "00"}) {
                Check.same(Check.chain(lossy, 6, 6, 3, 9), what == 1 ? 1 : lossy.charAt(0) - '0', x -> x.expected(0, what));
                Check.refused(Check.chain(lossy, 6, 6, 3, 9), FEW, x -> x.expected(1, what));
                Check.refused(Check.chain(lossy, 6, 6, 3, 9), FEW, x -> x.expected(2, what));
            }
            // No two lossy states in turn: U is 0, S is not.
            Check.same(Check.chain("10", 0, 12, 1, 11), 1, x -> x.expected(1, what));
            Check.refused(Check.chain("10", 0, 12, 1, 11), FEW, x -> x.expected(2, what));
            Check.holds("U is as small as can be", Check.chain("10", 1, 11, 1, 11).expected(2, what) > 0);
            // Lossy and not in turn: U and V are 0.
            Check.same(Check.chain("10", 0, 12, 12, 0), 1, x -> x.expected(1, what));
            Check.refused(Check.chain("10", 0, 12, 12, 0), FEW, x -> x.expected(2, what));
        }
        Check.says("expected: patterns and tests do not matter");
        Probes x = two();
        Check.typed(x, "room 1;cross 0 1;").path();
        for (int test = 0; test < 4; test++) x.trust(test, 0);
        Check.due("before a pattern", x.expected(2, 0), 5);
        x.asks(2);
        x.asks(3);
        x.steps(3);
        Check.due("estimate", x.estimate(1, 0), EpisodeProbes.UNLIKE);
        Check.due("after some patterns", x.expected(2, 0), 5);
        Check.due("its denominator", x.expected(2, 1), 2);
    }

    private static void lastsRange() {
        Check.says("lasts: BAD if n or what is out of range, 1 to 40 and 0 to 1");
        for (int n : new int[] {0, -1, 41, 42, Integer.MIN_VALUE, Integer.MAX_VALUE}) {
            for (int what = -1; what <= 2; what++) noLasts(n, what);
        }
        for (int what : new int[] {-1, 2, 3, Integer.MIN_VALUE, Integer.MAX_VALUE}) {
            noLasts(1, what);
            noLasts(2, what);
            noLasts(40, what);
        }
        for (int n = 1; n <= 17; n++) {
            int steps = n;
            Check.same(two(), 1, x -> x.lasts(steps, 0));
            Check.same(two(), 1L << steps - 1, x -> x.lasts(steps, 1));
        }
        Check.says("lasts: its first step included");
        Check.same(Check.chain("10", 0, 12, 12, 0), 1, x -> x.lasts(1, 0));
        Check.same(Check.chain("10", 0, 12, 12, 0), 0, x -> x.lasts(2, 0));
    }

    private static void noLasts(int n, int what) {
        Check.refused(two(), BAD, x -> x.lasts(n, what));
        Check.refused(new Probes(), BAD, x -> x.lasts(n, what));
        Check.refused(Check.chain("0", 12), BAD, x -> x.lasts(n, what));
    }

    private static void lastsFew() {
        Check.says("lasts: FEW if no episode ever begins");
        for (int n : new int[] {1, 2, 18, 19, 40}) {
            Check.refused(Check.chain("1", 12), FEW, x -> x.lasts(n, 0));
            Check.refused(Check.chain("0", 12), FEW, x -> x.lasts(n, 1));
            Check.refused(Check.chain("00", 6, 6, 3, 9), FEW, x -> x.lasts(n, 0));
            Check.refused(Check.chain("11", 6, 6, 3, 9), FEW, x -> x.lasts(n, 1));
            Check.refused(Check.chain("11111", 0, 12, 0, 0, 0, 0, 0, 12, 0, 0, 0, 0, 0, 12, 0, 0, 0, 0, 0, 12, 12, 0, 0, 0, 0), FEW,
                    x -> x.lasts(n, 1));
        }
        Check.same(Check.chain("01", 11, 1, 1, 11), 1, x -> x.lasts(1, 0));
        Check.same(Check.chain("01", 11, 1, 1, 11), 1, x -> x.lasts(1, 1));
        Check.says("lasts: an episode begins with a lossy state after one that is not lossy, chosen by the shares");
        // State 2 leads to state 0 with 4/12, to state 1 with 8/12; state 0 stays with 3/12, state 1 never.
        Probes x = Check.chain("110", 3, 0, 9, 0, 0, 12, 4, 8, 0);
        Check.due("2 steps", x.lasts(2, 0), 1);
        Check.due("2 steps", x.lasts(2, 1), 12);
        // States 2 and 3 have the shares 3/12 and 1/12; they lead to state 0, which stays, and to state 1, which does not.
        x = Check.chain("1100", 6, 0, 6, 0, 0, 0, 12, 0, 4, 4, 0, 4, 0, 12, 0, 0);
        long share2 = x.share(2, 0) * 1000 / x.share(2, 1), share3 = x.share(3, 0) * 1000 / x.share(3, 1);
        Check.due("the share of state 2 is three times that of state 3", share2 / share3, 3);
        // To state 0: 3 * 4; to state 1: 3 * 4 and 1 * 12.
        Check.due("2 steps", x.lasts(2, 0), 1);
        Check.due("2 steps", x.lasts(2, 1), 6);
    }

    private static void over(int n, long top, long bottom, String lossy, int... weights) {
        Check.same(Check.chain(lossy, weights), top, x -> x.lasts(n, 0));
        Check.same(Check.chain(lossy, weights), bottom, x -> x.lasts(n, 1));
        for (int longer : new int[] {n + 1, n + 2, 40}) {
            Check.refused(Check.chain(lossy, weights), OVER, x -> x.lasts(longer, 0));
            Check.refused(Check.chain(lossy, weights), OVER, x -> x.lasts(longer, 1));
        }
    }

    private static void lastsOver() {
        Check.says("lasts: OVER if 12 to the power of n - 1, times T, is above 2 to the power of 63 minus 1");
        // 2 to the power of 63 minus 1, divided by 12 to the power of 17, is 4 and a rest; by that of 16 it is 49,
        // by that of 15 it is 598, by that of 14 it is 7183, each with a rest.
        over(18, 762939453125L, 16926659444736L, "01", 8, 4, 2, 10);
        over(17, 33232930569601L, 184884258895036416L, "10", 7, 5, 5, 7);
        over(17, 331871542024135L, 1294189812265254912L, "011", 5, 4, 3, 5, 7, 0, 3, 4, 5);
        over(16, 42754611887L, 1174136684544L, "110", 6, 4, 2, 6, 3, 3, 6, 4, 2);
        over(16, 4806295140028825L, 4606699450801324032L, "0101", 0, 8, 4, 0, 0, 3, 3, 6, 2, 0, 0, 10, 1, 2, 4, 5);
        over(15, 3289794921875L, 769067160264769536L, "1100", 5, 2, 2, 3, 0, 0, 0, 12, 3, 2, 2, 5, 4, 2, 5, 1);
        over(15, 214748364653L, 838398757350408192L, "1010", 4, 3, 2, 3, 3, 2, 2, 5, 0, 11, 1, 0, 6, 3, 1, 2);
        over(14, 1, 1594323, "00100", 4, 3, 2, 0, 3, 0, 4, 0, 8, 0, 1, 0, 4, 2, 5, 4, 1, 3, 2, 2, 3, 2, 4, 2, 1);
        Check.says("lasts: also if the probability is 0 or 1, or has a small denominator");
        over(17, 0, 1, "10", 0, 12, 12, 0);
        over(17, 1, 1L << 16, "10", 6, 6, 1, 11);
        Check.says("lasts: for T as small as it can be, 1, n is at most 18");
        over(18, 505447028499293771L, 2218611106740436992L, "10", 11, 1, 1, 11);
    }

    private static void lastsSmallestDenominator() {
        Check.says("the shares are multiplied by their smallest common denominator");
        // The shares 1/2 and 1/2, whatever the weights: T is the weight from 0 to 1, 1 to 12.
        for (int weight = 1; weight <= 12; weight++) {
            int w = weight, most = weight <= 4 ? 18 : 17;
            Check.holds("n = " + most + ", T = " + w, Check.chain("01", 12 - w, w, w, 12 - w).lasts(most, 1) > 0);
            Check.refused(Check.chain("01", 12 - w, w, w, 12 - w), OVER, x -> x.lasts(most + 1, 1));
        }
        // The shares 1/3, 1/3, 1/3: T is 12 with one way into lossy states.
        Check.same(Check.chain("100", 0, 12, 0, 0, 0, 12, 12, 0, 0), 0, x -> x.lasts(17, 0));
        Check.refused(Check.chain("100", 0, 12, 0, 0, 0, 12, 12, 0, 0), OVER, x -> x.lasts(18, 0));
        // The shares 1/3 and 2/3: T is 1 * 4, not 2 * 4 or more.
        Check.holds("n = 18, T = 4", Check.chain("01", 8, 4, 2, 10).lasts(18, 1) > 0);
        Check.holds("n = 18, T = 1 * 2", Check.chain("01", 10, 2, 1, 11).lasts(18, 1) > 0);
        Check.refused(Check.chain("01", 6, 6, 3, 9), OVER, x -> x.lasts(18, 1));
    }

    private static void lowestTerms() {
        Check.says("fractions are in lowest terms with a positive denominator, 0 is 0/1");
        Probes x = Check.chain("10", 0, 12, 12, 0);
        Check.due("share", x.share(0, 0) * 10 + x.share(0, 1), 12);
        Check.due("the pattern 11", x.chance(2, 3, 0) * 10 + x.chance(2, 3, 1), 1);
        Check.due("the pattern 01", x.chance(2, 1, 0) * 10 + x.chance(2, 1, 1), 12);
        Check.due("the pattern 010", x.chance(3, 2, 0) * 10 + x.chance(3, 2, 1), 12);
        Check.due("expected frequency", x.expected(0, 0) * 10 + x.expected(0, 1), 12);
        Check.due("expected duration", x.expected(1, 0) * 10 + x.expected(1, 1), 11);
        Check.due("lasts 2", x.lasts(2, 0) * 10 + x.lasts(2, 1), 1);
        x = Check.chain("00", 6, 6, 6, 6);
        Check.due("expected frequency 0", x.expected(0, 0) * 10 + x.expected(0, 1), 1);
    }
}
