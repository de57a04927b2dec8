/** Promises 29 to 32: stab, ahead, enough, count. */
public final class PredictionsTest {
    public static void main(String[] args) {
        stab();
        stabAgainstAllChoices();
        stabLimits();
        ahead();
        aheadIsWhatComes();
        enough();
        count();
        nothingChanges();
        Check.end("PredictionsTest");
    }

    /** Slots that are lossy where the string has a 1. */
    private static Probes lossy(String bits) {
        StringBuilder text = new StringBuilder("room 1; cross");
        for (int i = 0; i < bits.length(); i++) text.append(bits.charAt(i) == '1' ? " 2" : " 0");
        Probes x = Check.path(text.append(';').toString());
        for (int i = 0; i < bits.length(); i++) x.steps(1);
        return x;
    }

    private static String stabs(Probes x, int width) {
        StringBuilder all = new StringBuilder();
        int number = x.stab(width, -1);
        for (int k = 0; k < number; k++) all.append(k == 0 ? "" : " ").append(x.stab(width, k));
        Check.due("behind the last one", x.stab(width, number), EpisodeProbes.NONE);
        Check.due("far behind", x.stab(width, Integer.MAX_VALUE), EpisodeProbes.NONE);
        return all.toString();
    }

    private static void stab(String bits, int width, String due) {
        String got = stabs(lossy(bits), width);
        Check.holds("stab of " + bits + " by " + width + ": " + due + ", not " + got, got.equals(due));
    }

    private static void stab() {
        stab("0000", 2, "");
        stab("1", 1, "0");
        stab("1", 4, "0");
        stab("0111", 2, "3");
        stab("01010101", 1, "1 3 5 7");
        stab("01010101", 2, "1 3 5 7");
        stab("01010101", 3, "1 5");
        stab("01010101", 4, "1 5");
        stab("11011", 1, "1 4");
        stab("11011", 2, "1 4");
        stab("11011", 3, "1");
        stab("1001001", 4, "0 6");
        stab("1110001110011", 3, "2 8 12");
        stab("1110001110011", 4, "2 8");
        Probes x = new Probes();
        Check.due("no episode", x.stab(1, -1), 0);
        Check.due("no experiment", x.stab(1, 0), EpisodeProbes.NONE);
        x = lossy("0101");
        Check.due("width below", x.stab(0, -1), EpisodeProbes.BAD);
        Check.due("width above", x.stab(5, -1), EpisodeProbes.BAD);
        Check.due("k below", x.stab(1, -2), EpisodeProbes.BAD);
        Check.due("k far below", x.stab(1, Integer.MIN_VALUE), EpisodeProbes.BAD);
        Check.due("BAD is before NONE", x.stab(5, 9), EpisodeProbes.BAD);
    }

    /** All patterns of 9 slots, and all sets of first slots up to 11, the fewest and latest of which is due. */
    private static void stabAgainstAllChoices() {
        for (int pattern = 0; pattern < 512; pattern++) {
            StringBuilder bits = new StringBuilder();
            for (int slot = 0; slot < 9; slot++) bits.append(pattern >> slot & 1);
            Probes x = lossy(bits.toString());
            for (int width = 1; width <= 4; width++) {
                String got = stabs(x, width), due = best(pattern, width);
                Check.holds("stab of " + bits + " by " + width + ": " + due + ", not " + got, got.equals(due));
            }
        }
    }

    private static String best(int pattern, int width) {
        int best = -1;
        for (int set = 0; set < 1 << 11; set++) {
            if (!seesAll(pattern, set, width)) continue;
            if (best < 0 || isBetter(set, best)) best = set;
        }
        StringBuilder all = new StringBuilder();
        for (int slot = 0; slot < 11; slot++) {
            if ((best >> slot & 1) == 1) all.append(all.length() == 0 ? "" : " ").append(slot);
        }
        return all.toString();
    }

    private static boolean isBetter(int set, int other) {
        if (Integer.bitCount(set) != Integer.bitCount(other)) return Integer.bitCount(set) < Integer.bitCount(other);
        for (int slot = 0; slot < 11; slot++) {
            int a = set >> slot & 1, b = other >> slot & 1;
            if (a != b) return b == 1;
        }
        return false;
    }

    private static boolean seesAll(int pattern, int set, int width) {
        int probes = 0;
        for (int i = 0; i < width; i++) probes |= set << i;
        for (int slot = 0; slot < 9; slot++) {
            boolean begins = (pattern >> slot & 1) == 1 && (slot == 0 || (pattern >> slot - 1 & 1) == 0);
            if (!begins) continue;
            boolean seen = false;
            for (int s = slot; s < 9 && (pattern >> s & 1) == 1; s++) seen |= (probes >> s & 1) == 1;
            if (!seen) return false;
        }
        return true;
    }

    private static void stabLimits() {
        Probes x = Check.path("room 1; cross 0 2;");
        for (int i = 0; i < 62; i++) x.steps(32);
        x.steps(16);
        Check.due("1000 episodes, by 2", x.stab(2, -1), 1000);
        Check.due("the last one", x.stab(2, 999), 1999);
        Check.due("behind it", x.stab(2, 1000), EpisodeProbes.NONE);
        Check.due("1000 episodes, by 4", x.stab(4, -1), 500);
        Check.due("the last one", x.stab(4, 499), 1997);
    }

    private static void ahead() {
        Probes x = Check.path("room 4; rate 2; cross 5 0 3; cross 1; plan 2;");
        // Without probes: 6 come, 4 enter, 2 stay; 1 comes, 1 stays; 4 come, 3 enter, 2 stay.
        Check.due("the plan does not matter", x.ahead(1, 0), 2);
        Check.due("two slots", x.ahead(2, 0), 2);
        Check.due("three slots", x.ahead(3, 0), 3);
        // 8 come, 4 enter, 2 stay; 3 come, 2 enter, 2 stay; 6 come, 2 enter
        Check.due("with 2 more", x.ahead(3, 2), 4 + 1 + 4);
        x = new Probes();
        x.asks(3);
        Check.due("requests do not matter", x.ahead(3, 10), 0 + 9 + 9);
        x.draws(16, 5);
        Check.due("draws do not matter", x.ahead(3, 10), 0 + 9 + 9);
        x.draws(0, 0);
        x.steps(1);
        Check.due("the active one goes on, for two slots", x.ahead(3, 10), 1 + 10 + 9);
        x.breaks(0);
        Check.due("an aborted one does not", x.ahead(3, 10), 0 + 9 + 9);
        x = Check.path("room 2; cross 0 5 0 0 0;");
        x.steps(1);
        Check.due("rows go on from here", x.ahead(1, 0), 3);
        Check.due("rows come again", x.ahead(6, 0), 6);
        x.steps(1);
        Check.due("the queue is as it is", x.ahead(1, 2), 1);
        Check.due("n below", x.ahead(0, 0), EpisodeProbes.BAD);
        Check.due("n above", x.ahead(65, 0), EpisodeProbes.BAD);
        Check.due("more below", x.ahead(1, -1), EpisodeProbes.BAD);
        Check.due("more above", x.ahead(1, 21), EpisodeProbes.BAD);
        x = Check.path("room 40; rate 9; cross 20; cross 20; cross 20; cross 20;");
        Check.due("the most", x.ahead(64, 20), 60 + 63 * 91);
        for (int i = 0; i < 62; i++) x.steps(32);
        x.steps(16);
        Check.due("beyond 2000", x.ahead(64, 20), 64 * 91);
    }

    /** What is foreseen comes, if no experiment begins. */
    private static void aheadIsWhatComes() {
        Probes x = Check.path("room 7; rate 3; cross 9 0 (4 1) 3 2; cross 0 5 1; cross 2 2 0 0 0;");
        for (int round = 0; round < 40; round++) {
            for (int i = round % 5; i > 0 && i < 5; i--) x.asks(2 + i % 2);
            x.steps(1 + round % 3);
            int foreseen = x.ahead(5, 0), before = x.count(2);
            x.steps(5);
            Check.due("foreseen in round " + round, foreseen, x.count(2) - before);
        }
    }

    private static void enough() {
        Probes x = new Probes();
        Check.due("nothing comes", x.enough(64), 1);
        x = Check.path("room 2; cross 7 0 0 0;");
        Check.due("7 at once", x.enough(1), 7);
        Check.due("3 of 7 stay until they come again", x.enough(5), 10);
        x = Check.path("rate 9; cross 20; cross 20; cross 0 1;");
        Check.due("40 at once", x.enough(1), 40);
        Check.due("more than 40", x.enough(2), EpisodeProbes.NONE);
        x = Check.path("room 40; cross 20 0 0 0 0 1;");
        x.steps(1);
        Check.due("the queue is above the capacity, but nothing comes", x.enough(4), 1);
        Check.due("when the next one comes, 15 are left", x.enough(5), 16);
        x = new Probes();
        for (int i = 0; i < 4; i++) x.asks(3);
        Check.due("requests do not matter", x.enough(9), 1);
        x.steps(1);
        Check.due("3 wait, 4 come", x.enough(1), 7);
        Check.due("then 6 wait, and 4 come", x.enough(2), 10);
        Check.due("then none comes", x.enough(9), 10);
        Check.due("n below", x.enough(0), EpisodeProbes.BAD);
        Check.due("n above", x.enough(65), EpisodeProbes.BAD);
        x = Check.path("room 9; cross 3 1 0 4 0 0 2; cross 2;");
        x.asks(3);
        x.steps(2);
        for (int n = 1; n <= 64; n++) {
            int capacity = x.enough(n);
            Check.due("it does not lessen", capacity == EpisodeProbes.NONE || capacity >= x.enough(Math.max(1, n - 1)) ? 1 : 0, 1);
        }
    }

    private static void counts(Probes x, String due) {
        StringBuilder all = new StringBuilder();
        for (int what = 0; what <= 13; what++) all.append(what == 0 ? "" : " ").append(x.count(what));
        Check.holds("counts " + due + ", not " + all, all.toString().equals(due));
    }

    private static void count() {
        Probes x = new Probes();
        counts(x, "0 0 0 0 0 0 0 0 0 0 0 0 0 0");
        x = Check.path("room 3; budget 4 2; cross 0 6 6 0; cross 0; plan 3 0 0 (2 0) 2;");
        counts(x, "0 0 0 0 0 0 0 0 0 0 2 7 0 0");
        x.asks(2);
        x.asks(2);
        x.asks(3);
        counts(x, "0 0 0 0 0 0 0 0 0 3 2 7 0 0");
        x.steps(1);
        counts(x, "1 1 0 0 0 2 2 0 2 0 2 7 0 0");
        x.breaks(1);
        counts(x, "1 1 0 0 0 2 2 1 1 0 2 7 0 0");
        x.steps(3);
        counts(x, "4 2 11 2 1 3 2 1 1 0 2 7 0 0");
        x.state(0);
        x.state(1);
        Check.typed(x, "abc");
        counts(x, "4 2 11 2 1 3 2 1 1 0 2 7 2 3");
        Check.due("below", x.count(-1), EpisodeProbes.BAD);
        Check.due("above", x.count(14), EpisodeProbes.BAD);
    }

    private static void nothingChanges() {
        Probes x = Check.path("room 3; mark 2; cross 2 0 3; plan 2 0 3;");
        x.asks(2);
        x.steps(17);
        x.asks(3);
        String before = Picture.of(x);
        for (int i = -2; i < 70; i += 6) {
            x.enough(i);
            x.count(i / 5);
            for (int j = -2; j < 22; j += 2) {
                x.stab(i / 12, j / 3);
                x.ahead(i, j);
            }
        }
        Check.holds("asking changes nothing", Picture.of(x).equals(before));
    }
}
