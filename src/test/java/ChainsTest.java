/** Promises 22 to 28: state, weight, empty, share, chance, expected, lasts. */
public final class ChainsTest {
    public static void main(String[] args) {
        state();
        weight();
        empty();
        soundness();
        share();
        chance();
        expected();
        lasts();
        lastsTooLong();
        order();
        Check.end("ChainsTest");
    }

    /** A chain: which states are lossy, and the weights from each state. */
    private static Probes chain(String lossy, int... weights) {
        Probes x = new Probes();
        int states = lossy.length();
        for (int s = 0; s < states; s++) x.state(lossy.charAt(s) - '0');
        for (int i = 0; i < states * states; i++) x.weight(i / states, i % states, weights[i]);
        return x;
    }

    private static void state() {
        Probes x = new Probes();
        for (int s = 0; s < 5; s++) {
            Check.due("lossy below", x.state(-1), EpisodeProbes.BAD);
            Check.due("lossy above", x.state(2), EpisodeProbes.BAD);
            Check.due("state", x.state(s % 2), s);
            Check.due("states", x.count(12), s + 1);
        }
        Check.due("a sixth", x.state(1), EpisodeProbes.FULL);
        Check.due("BAD is before FULL", x.state(7), EpisodeProbes.BAD);
        Check.due("five stay", x.count(12), 5);
    }

    private static void weight() {
        Probes x = new Probes();
        Check.due("no state", x.weight(0, 0, 5), EpisodeProbes.BAD);
        x.state(1);
        x.state(0);
        Check.due("at first", x.weight(0, 1, 12), 0);
        Check.due("previous", x.weight(0, 1, 0), 12);
        Check.due("previous", x.weight(0, 1, 7), 0);
        Check.due("the other way", x.weight(1, 0, 3), 0);
        Check.due("to itself", x.weight(1, 1, 4), 0);
        Check.due("from below", x.weight(-1, 0, 5), EpisodeProbes.BAD);
        Check.due("from above", x.weight(2, 0, 5), EpisodeProbes.BAD);
        Check.due("to below", x.weight(0, -1, 5), EpisodeProbes.BAD);
        Check.due("to above", x.weight(0, 2, 5), EpisodeProbes.BAD);
        Check.due("weight below", x.weight(0, 1, -1), EpisodeProbes.BAD);
        Check.due("weight above", x.weight(0, 1, 13), EpisodeProbes.BAD);
        Check.due("unchanged", x.weight(0, 1, 1), 7);
        Check.due("unchanged", x.weight(1, 0, 1), 3);
        Check.due("unchanged", x.weight(1, 1, 1), 4);
        x.state(0);
        Check.due("a state added later", x.weight(0, 2, 5), 0);
        Check.due("stays", x.weight(0, 1, 1), 1);
    }

    private static void empty() {
        Probes x = chain("10", 6, 6, 3, 9);
        Check.due("sound", x.share(0, 1), 3);
        Check.due("empty", x.empty(), 2);
        Check.due("empty again", x.empty(), 0);
        Check.due("states", x.count(12), 0);
        Check.due("no state", x.share(0, 0), EpisodeProbes.BAD);
        Check.due("numbers begin anew", x.state(0), 0);
        Check.due("numbers begin anew", x.state(1), 1);
        for (int i = 0; i < 4; i++) Check.due("weights are removed", x.weight(i / 2, i % 2, 1), 0);
    }

    private static void sound(boolean isSound, String lossy, int... weights) {
        Probes x = chain(lossy, weights);
        for (int s = 0; s < lossy.length(); s++) {
            Check.holds("soundness", x.share(s, 0) == EpisodeProbes.STATE != isSound);
        }
        Check.holds("soundness", x.chance(2, 0, 0) == EpisodeProbes.STATE != isSound);
        Check.holds("soundness", x.expected(0, 0) == EpisodeProbes.STATE != isSound);
        Check.holds("soundness", x.lasts(1, 0) == EpisodeProbes.STATE != isSound);
    }

    private static void soundness() {
        sound(false, "");
        sound(true, "1", 12);
        sound(true, "0", 12);
        sound(false, "1", 11);
        sound(false, "1", 0);
        sound(false, "10", 12, 0, 0, 12);
        sound(false, "10", 12, 0, 6, 6);
        sound(false, "10", 6, 6, 0, 12);
        sound(true, "10", 11, 1, 12, 0);
        sound(false, "10", 11, 2, 12, 0);
        sound(false, "10", 11, 1, 11, 0);
        sound(true, "10", 0, 12, 12, 0);
        sound(true, "101", 0, 12, 0, 0, 0, 12, 12, 0, 0);
        sound(false, "101", 0, 12, 0, 12, 0, 0, 6, 0, 6);
        sound(false, "101", 0, 6, 6, 0, 12, 0, 0, 0, 12);
        sound(false, "101", 6, 6, 0, 0, 6, 6, 0, 6, 6);
        sound(true, "10101", 0, 0, 0, 0, 12, 12, 0, 0, 0, 0, 0, 12, 0, 0, 0, 0, 0, 12, 0, 0, 0, 0, 0, 12, 0);
        sound(true, "10101", 0, 12, 0, 0, 0, 0, 0, 12, 0, 0, 0, 0, 0, 12, 0, 0, 0, 0, 0, 12, 12, 0, 0, 0, 0);
        sound(false, "10101", 0, 12, 0, 0, 0, 0, 0, 12, 0, 0, 0, 0, 0, 12, 0, 0, 0, 0, 0, 12, 0, 12, 0, 0, 0);
    }

    private static void shares(Probes x, String due) {
        StringBuilder all = new StringBuilder();
        for (int s = 0; s < x.count(12); s++) {
            all.append(s == 0 ? "" : " ").append(x.share(s, 0)).append('/').append(x.share(s, 1));
        }
        Check.holds("shares " + due + ", not " + all, all.toString().equals(due));
    }

    private static void share() {
        shares(chain("1", 12), "1/1");
        shares(chain("10", 0, 12, 12, 0), "1/2 1/2");
        shares(chain("10", 6, 6, 3, 9), "1/3 2/3");
        shares(chain("01", 11, 1, 12, 0), "12/13 1/13");
        shares(chain("101", 0, 12, 0, 0, 0, 12, 12, 0, 0), "1/3 1/3 1/3");
        // 0 and 2 lead to 1 alone, which leads to 0 with 4/12, to 2 with 8/12.
        shares(chain("101", 0, 12, 0, 4, 0, 8, 0, 12, 0), "1/6 1/2 1/3");
        // A walk of birth and death: the shares are as 1, 2, 4, 8, 16.
        shares(chain("10101", 10, 2, 0, 0, 0, 1, 9, 2, 0, 0, 0, 1, 9, 2, 0, 0, 0, 1, 9, 2, 0, 0, 0, 1, 11),
                "1/31 2/31 4/31 8/31 16/31");
        // Each share is 1/12 of the one before.
        shares(chain("00000", 11, 1, 0, 0, 0, 11, 0, 1, 0, 0, 11, 0, 0, 1, 0, 11, 0, 0, 0, 1, 12, 0, 0, 0, 0),
                "20736/22621 1728/22621 144/22621 12/22621 1/22621");
        Probes x = chain("10", 6, 6, 3, 9);
        Check.due("state below", x.share(-1, 0), EpisodeProbes.BAD);
        Check.due("state above", x.share(2, 0), EpisodeProbes.BAD);
        Check.due("what below", x.share(0, -1), EpisodeProbes.BAD);
        Check.due("what above", x.share(0, 2), EpisodeProbes.BAD);
    }

    private static void chance() {
        Probes x = chain("10", 6, 6, 3, 9);
        chances(x, 2, "1/2 1/6 1/6 1/6");
        chances(x, 3, "3/8 1/8 1/12 1/12 1/8 1/24 1/12 1/12");
        x = chain("11", 6, 6, 3, 9);
        chances(x, 2, "0/1 0/1 0/1 1/1");
        x = chain("0", 12);
        chances(x, 3, "1/1 0/1 0/1 0/1 0/1 0/1 0/1 0/1");
        x = chain("101", 0, 12, 0, 0, 0, 12, 12, 0, 0);
        chances(x, 2, "0/1 1/3 1/3 1/3");
        chances(x, 3, "0/1 0/1 0/1 1/3 0/1 1/3 1/3 0/1");
        Check.due("kind 1", x.chance(1, 0, 0), EpisodeProbes.BAD);
        Check.due("kind 4", x.chance(4, 0, 0), EpisodeProbes.BAD);
        Check.due("pair 4", x.chance(2, 4, 0), EpisodeProbes.BAD);
        Check.due("triple 8", x.chance(3, 8, 0), EpisodeProbes.BAD);
        Check.due("below", x.chance(3, -1, 0), EpisodeProbes.BAD);
        Check.due("what above", x.chance(2, 0, 2), EpisodeProbes.BAD);
        Check.due("what below", x.chance(2, 0, -1), EpisodeProbes.BAD);
    }

    private static void chances(Probes x, int kind, String due) {
        StringBuilder all = new StringBuilder();
        for (int bits = 0; bits < 1 << kind; bits++) {
            all.append(bits == 0 ? "" : " ").append(x.chance(kind, bits, 0)).append('/').append(x.chance(kind, bits, 1));
        }
        Check.holds("chances " + due + ", not " + all, all.toString().equals(due));
    }

    private static void expects(Probes x, String due) {
        StringBuilder all = new StringBuilder();
        for (int which = 0; which <= 2; which++) {
            all.append(which == 0 ? "" : " ").append(x.expected(which, 0)).append('/').append(x.expected(which, 1));
        }
        Check.holds("expected " + due + ", not " + all, all.toString().equals(due));
    }

    private static void expected() {
        expects(chain("10", 6, 6, 3, 9), "1/3 2/1 5/2");
        expects(chain("1", 12), "1/1 -4/-4 -4/-4");
        expects(chain("0", 12), "0/1 -4/-4 -4/-4");
        expects(chain("10", 0, 12, 12, 0), "1/2 1/1 -4/-4");
        // 011 and 110 never come, but 001 does.
        expects(chain("100", 0, 12, 0, 0, 0, 12, 12, 0, 0), "1/3 1/1 -4/-4");
        // Two lossy states in turn, then one that is not: U = 2/3, V = 0.
        expects(chain("101", 0, 12, 0, 0, 0, 12, 12, 0, 0), "2/3 2/1 1/1");
        Probes x = chain("10", 6, 6, 3, 9);
        expects(x, "1/3 2/1 5/2");
        x.weight(0, 0, 3);
        x.weight(0, 1, 9);
        expects(x, "1/4 4/3 2/1");
        x.empty();
        x.state(1);
        x.weight(0, 0, 12);
        expects(x, "1/1 -4/-4 -4/-4");
        x = chain("10", 6, 6, 3, 9);
        x.trust(0, 0);
        x.trust(2, 0);
        Check.due("tests do not matter", x.expected(1, 0), 2);
        Check.due("which below", x.expected(-1, 0), EpisodeProbes.BAD);
        Check.due("which above", x.expected(3, 0), EpisodeProbes.BAD);
        Check.due("what below", x.expected(0, -1), EpisodeProbes.BAD);
        Check.due("what above", x.expected(0, 2), EpisodeProbes.BAD);
    }

    private static void last(Probes x, int n, long top, long bottom) {
        Check.due("lasts " + n, x.lasts(n, 0), top);
        Check.due("lasts " + n, x.lasts(n, 1), bottom);
    }

    private static void lasts() {
        Probes x = chain("10", 6, 6, 3, 9);
        last(x, 1, 1, 1);
        last(x, 2, 1, 2);
        last(x, 10, 1, 512);
        x = chain("10", 0, 12, 12, 0);
        last(x, 1, 1, 1);
        last(x, 2, 0, 1);
        // An episode begins in state 1 twice as often as in state 0; state 0 stays with 1/4, state 1 never.
        x = chain("110", 3, 0, 9, 0, 0, 12, 4, 8, 0);
        last(x, 2, 1, 12);
        last(x, 3, 1, 48);
        x = chain("1", 12);
        Check.due("no episode begins", x.lasts(1, 0), EpisodeProbes.FEW);
        x = chain("00", 6, 6, 3, 9);
        Check.due("no episode begins", x.lasts(3, 1), EpisodeProbes.FEW);
        Check.due("FEW is before OVER", x.lasts(40, 1), EpisodeProbes.FEW);
        Check.due("n below", x.lasts(0, 0), EpisodeProbes.BAD);
        Check.due("n above", x.lasts(41, 0), EpisodeProbes.BAD);
        Check.due("what below", x.lasts(1, -1), EpisodeProbes.BAD);
        Check.due("what above", x.lasts(1, 2), EpisodeProbes.BAD);
    }

    private static void lastsTooLong() {
        // Shares 1/2 and 1/2: T is 1 * 12, and 12 to the power 17 is below 2 to the 63.
        Probes x = chain("10", 0, 12, 12, 0);
        last(x, 17, 0, 1);
        Check.due("T = 12, n = 18", x.lasts(18, 0), EpisodeProbes.OVER);
        // Shares 1/12 and 11/12: T is 11 * 1, and 11 * 12 to the 16 is small enough, 11 * 12 to the 17 is not.
        x = chain("10", 1, 11, 1, 11);
        Check.due("n = 17", x.lasts(17, 0), 1);
        Check.due("n = 17", x.lasts(17, 1), power(12, 16));
        Check.due("n = 18", x.lasts(18, 1), EpisodeProbes.OVER);
        // Shares 12/13 and 1/13: T is 12 * 1 to the lossy one.
        x = chain("01", 11, 1, 12, 0);
        Check.due("n = 17", x.lasts(17, 1), 1);
        Check.due("n = 18", x.lasts(18, 1), EpisodeProbes.OVER);
        // Shares 1/2 and 1/2: T is 1 * 4, and 4 * 12 to the power 17 is 8.87e18, just below 2 to the 63.
        x = chain("10", 8, 4, 4, 8);
        Check.due("T = 4, n = 18", x.lasts(18, 0), power(2, 17));
        Check.due("T = 4, n = 18", x.lasts(18, 1), power(3, 17));
        Check.due("T = 4, n = 19", x.lasts(19, 1), EpisodeProbes.OVER);
        x = chain("10", 7, 5, 5, 7);
        Check.due("T = 5, n = 18", x.lasts(18, 1), EpisodeProbes.OVER);
        Check.due("T = 5, n = 17", x.lasts(17, 1), power(12, 16));
    }

    private static long power(long base, int exponent) {
        long power = 1;
        for (int i = 0; i < exponent; i++) power *= base;
        return power;
    }

    private static void order() {
        Probes x = chain("10", 6, 6, 3, 8);
        Check.due("BAD is before STATE", x.share(2, 0), EpisodeProbes.BAD);
        Check.due("BAD is before STATE", x.share(0, 2), EpisodeProbes.BAD);
        Check.due("BAD is before STATE", x.chance(2, 4, 0), EpisodeProbes.BAD);
        Check.due("BAD is before STATE", x.expected(3, 0), EpisodeProbes.BAD);
        Check.due("BAD is before STATE", x.lasts(41, 0), EpisodeProbes.BAD);
        Check.due("STATE is before OVER", x.lasts(40, 0), EpisodeProbes.STATE);
        x = chain("1", 11);
        Check.due("STATE is before FEW", x.expected(1, 0), EpisodeProbes.STATE);
        Check.due("STATE is before FEW", x.lasts(1, 0), EpisodeProbes.STATE);
        x = chain("101", 0, 12, 0, 4, 0, 8, 0, 12, 0);
        String before = Picture.of(x);
        for (int a = -2; a < 7; a++) {
            x.state(a + 20);
            for (int b = -2; b < 7; b++) {
                x.share(a, b);
                x.expected(a, b);
                x.lasts(a, b);
                x.weight(a, b, 13);
                x.chance(a, b, 1);
            }
        }
        Check.holds("asking and errors change nothing", Picture.of(x).equals(before));
    }
}
