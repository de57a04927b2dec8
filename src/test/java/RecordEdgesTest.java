/** The boundaries of promises 10 to 15, each sentence on both sides. */
public final class RecordEdgesTest {
    private static final int BAD = EpisodeProbes.BAD, NONE = EpisodeProbes.NONE;

    public static void main(String[] args) {
        lossyRange();
        lossyNone();
        slotRange();
        slotNone();
        slotNumbers();
        episodeRange();
        episodeBounds();
        episodeOver();
        episodeAtTheEnds();
        episodeNumbers();
        packetsRange();
        packetsOfNone();
        delayRange();
        delayOfNone();
        underRange();
        underBits();
        Check.end("RecordEdgesTest");
    }

    /** Slots that are lossy where the string has a 1. */
    private static Probes lossy(String bits) {
        StringBuilder text = new StringBuilder("room 1;cross");
        for (int i = 0; i < bits.length(); i++) text.append(bits.charAt(i) == '1' ? " 2" : " 0");
        return Check.passed(Check.path(text.append(';').toString()), bits.length());
    }

    private static void lossyRange() {
        Check.says("lossy: BAD if slot is out of range, 0 to 1999");
        for (int slot : new int[] {-1, 2000, 2001, 9999, Integer.MIN_VALUE, Integer.MAX_VALUE}) {
            Check.refused(new Probes(), BAD, x -> x.lossy(slot));
            Check.refused(Check.busy(), BAD, x -> x.lossy(slot));
        }
        Probes x = Check.passed(new Probes(), 2000);
        Check.refused(x, BAD, p -> p.lossy(2000));
        Check.refused(x, BAD, p -> p.lossy(-1));
        Check.same(x, 0, p -> p.lossy(1999));
        Check.same(x, 0, p -> p.lossy(0));
    }

    private static void lossyNone() {
        Check.says("lossy: NONE if the slot has not passed yet");
        Check.same(new Probes(), NONE, x -> x.lossy(0));
        Check.same(new Probes(), NONE, x -> x.lossy(1999));
        Probes x = lossy("101");
        Check.same(x, 1, p -> p.lossy(0));
        Check.same(x, 0, p -> p.lossy(1));
        Check.same(x, 1, p -> p.lossy(2));
        Check.same(x, NONE, p -> p.lossy(3));
        Check.same(x, NONE, p -> p.lossy(1999));
        x.steps(1);
        Check.same(x, 1, p -> p.lossy(3));
        Check.same(x, NONE, p -> p.lossy(4));
        x = Check.passed(Check.path("room 1;cross 2;"), 1999);
        Check.same(x, 1, p -> p.lossy(1998));
        Check.same(x, NONE, p -> p.lossy(1999));
        x.steps(1);
        Check.same(x, 1, p -> p.lossy(1999));
        Check.says("lossy: a path that is read makes all slots such as have not passed");
        x.path();
        Check.same(x, NONE, p -> p.lossy(0));
        x.steps(1);
        Check.same(x, 0, p -> p.lossy(0));
        Check.same(x, NONE, p -> p.lossy(1));
    }

    private static void slotRange() {
        Check.says("slot: BAD if slot or what is out of range, 0 to 1999 and 0 to 2");
        for (int slot : new int[] {-1, 2000, 2001, Integer.MIN_VALUE, Integer.MAX_VALUE}) {
            for (int what = 0; what <= 2; what++) slotRefused(slot, what);
        }
        for (int what : new int[] {-1, 3, 4, Integer.MIN_VALUE, Integer.MAX_VALUE}) {
            slotRefused(0, what);
            slotRefused(12, what);
            slotRefused(1999, what);
            slotRefused(2000, what);
        }
        Probes x = Check.passed(new Probes(), 2000);
        for (int asked = 0; asked <= 2; asked++) {
            int what = asked;
            Check.same(x, 0, p -> p.slot(1999, what));
            Check.refused(x, BAD, p -> p.slot(2000, what));
        }
    }

    private static void slotRefused(int slot, int what) {
        Check.refused(Check.busy(), BAD, x -> x.slot(slot, what));
        Check.refused(new Probes(), BAD, x -> x.slot(slot, what));
    }

    private static void slotNone() {
        Check.says("slot: NONE if the slot has not passed yet");
        for (int asked = 0; asked <= 2; asked++) {
            int what = asked;
            Check.same(new Probes(), NONE, x -> x.slot(0, what));
            Check.same(Check.busy(), NONE, x -> x.slot(13, what));
            Check.same(Check.busy(), NONE, x -> x.slot(1999, what));
            Probes x = Check.passed(Check.path("room 1;cross 2;plan 2;"), 1999);
            Check.same(x, NONE, p -> p.slot(1999, what));
            Check.same(x, what == 2 ? 3 : 2, p -> p.slot(1998, what));
            x.steps(1);
            Check.same(x, what == 2 ? 3 : 2, p -> p.slot(1999, what));
        }
        Check.says("slot: the probes that active experiments are still to send do not make a slot passed");
        Probes x = new Probes();
        x.asks(3);
        x.steps(1);
        Check.same(x, 1, p -> p.slot(0, 0));
        Check.same(x, NONE, p -> p.slot(1, 0));
        Check.same(x, NONE, p -> p.slot(2, 0));
    }

    private static void slotNumbers() {
        Check.says("slot: how many probes were sent, how many saw 1, how many packets were lost, probes included");
        Probes x = Check.path("room 3;rate 3;mark 2;cross 0 1 2 3 4;plan 2;");
        x.steps(1);
        for (int slot = 1; slot <= 4; slot++) {
            x.steps(1);
            Check.due("sent in slot " + slot, x.slot(slot, 0), 2);
            // The two probes find so many packets: slot, and one more (the first one).
            Check.due("saw 1 in slot " + slot, x.slot(slot, 1), slot >= 2 ? 2 : 1);
            Check.due("lost in slot " + slot, x.slot(slot, 2), Math.max(0, slot + 2 - 3));
        }
        Check.due("sent in slot 0", x.slot(0, 0), 1);
        Check.due("saw 1 in slot 0", x.slot(0, 1), 0);
        Check.due("lost in slot 0", x.slot(0, 2), 0);
    }

    private static void episodeRange() {
        Check.says("episode: BAD if there is no such episode");
        for (int what = 0; what <= 5; what++) noEpisode(new Probes(), 0, what);
        noEpisode(lossy("0000"), 0, 0);
        noEpisode(lossy("0000"), -1, 0);
        for (int k : new int[] {-1, 2, 3, 1000, 2000, Integer.MIN_VALUE, Integer.MAX_VALUE}) {
            for (int what = 0; what <= 5; what++) noEpisode(lossy("0110100"), k, what);
        }
        Check.same(lossy("0110100"), 1, x -> x.episode(0, 0));
        Check.same(lossy("0110100"), 4, x -> x.episode(1, 0));
        noEpisode(lossy("0"), 0, 0);
        Check.same(lossy("1"), 0, x -> x.episode(0, 0));
        noEpisode(lossy("1"), 1, 0);
        Check.says("episode: BAD if what is not 0 to 5");
        for (int what : new int[] {-1, 6, 7, Integer.MIN_VALUE, Integer.MAX_VALUE}) {
            noEpisode(lossy("0110100"), 0, what);
            noEpisode(lossy("0110100"), 1, what);
            noEpisode(lossy("0110100"), 2, what);
            noEpisode(new Probes(), 0, what);
        }
        Check.same(lossy("0110100"), 0, x -> x.episode(0, 5));
    }

    private static void noEpisode(Probes x, int k, int what) {
        Check.refused(x, BAD, p -> p.episode(k, what));
    }

    private static void episode(Probes x, int k, String due) {
        StringBuilder all = new StringBuilder();
        for (int what = 0; what <= 5; what++) all.append(what == 0 ? "" : " ").append(x.episode(k, what));
        Check.holds("episode " + k + " is " + due + ", not " + all, all.toString().equals(due));
    }

    private static void episodeBounds() {
        Check.says("an episode is a longest run of consecutive lossy slots, numbered in their order");
        Probes x = lossy("11011100101");
        Check.due("episodes", x.count(4), 4);
        episode(x, 0, "0 2 2 1 0 0");
        episode(x, 1, "3 3 3 1 0 0");
        episode(x, 2, "8 1 1 1 0 0");
        episode(x, 3, "10 1 1 0 0 0");
        Check.due("one slot between", lossy("101").count(4), 2);
        Check.due("none between", lossy("111").count(4), 1);
        Check.due("lossy slots", x.count(3), 7);
        Check.says("the number of an episode stays when another one begins");
        x.steps(11);
        episode(x, 2, "8 1 1 1 0 0");
        // The last slot of the row and the first one of the next turn are one run.
        episode(x, 3, "10 3 3 1 0 0");
    }

    private static void episodeOver() {
        Check.says("an episode is over if a slot that is not lossy has passed after it");
        Probes x = Check.path("room 1;cross 2 2 0 0 2;");
        x.steps(1);
        Check.same(x, 0, p -> p.episode(0, 3));
        x.steps(1);
        Check.same(x, 0, p -> p.episode(0, 3));
        Check.same(x, 2, p -> p.episode(0, 1));
        x.steps(1);
        Check.same(x, 1, p -> p.episode(0, 3));
        Check.same(x, 2, p -> p.episode(0, 1));
        x.steps(2);
        Check.same(x, 1, p -> p.episode(0, 3));
        Check.same(x, 0, p -> p.episode(1, 3));
        x.steps(1);
        Check.same(x, 0, p -> p.episode(1, 3));
        Check.same(x, 4, p -> p.episode(1, 0));
        Check.same(x, 2, p -> p.episode(1, 1));
        x.steps(2);
        Check.same(x, 1, p -> p.episode(1, 3));
    }

    private static void episodeAtTheEnds() {
        Check.says("an episode may begin with slot 0, and last to slot 1999");
        Probes x = Check.passed(Check.path("room 1;cross 2;"), 2000);
        episode(x, 0, "0 2000 2000 0 0 0");
        Check.due("episodes", x.count(4), 1);
        x = Check.passed(Check.path("room 1;cross 2 0;"), 2000);
        episode(x, 0, "0 1 1 1 0 0");
        episode(x, 999, "1998 1 1 1 0 0");
        Check.due("episodes", x.count(4), 1000);
        noEpisode(x, 1000, 0);
        x = Check.passed(Check.path("room 1;cross 0 2;"), 2000);
        episode(x, 0, "1 1 1 1 0 0");
        episode(x, 999, "1999 1 1 0 0 0");
        noEpisode(x, 1000, 0);
        x = Check.passed(Check.path("room 1;cross 0 2;"), 1999);
        episode(x, 998, "1997 1 1 1 0 0");
        noEpisode(x, 999, 0);
        x.steps(1);
        episode(x, 999, "1999 1 1 0 0 0");
    }

    private static void episodeNumbers() {
        Check.says("episode: the probes and losses of its own slots alone");
        Probes x = Check.path("room 2;rate 2;mark 2;plan 3;cross 0 0 0 4 3 0 0 0;");
        x.steps(8);
        // Three probes in each of the slots 2 to 7, and room for two: 1 + 5 + 4 + 1 + 1 + 1 are lost.
        episode(x, 0, "2 6 13 0 18 10");
        x = Check.path("room 2;rate 2;mark 2;plan 2 0 0 0;cross 0 4 0 0;");
        x.steps(4);
        episode(x, 0, "1 1 3 1 1 1");
        Check.due("the probe before it", x.slot(0, 0), 1);
    }

    private static void packetsRange() {
        Check.says("packets: BAD if there is no such source");
        StringBuilder text = new StringBuilder();
        for (int sources = 0; sources <= 4; sources++) {
            for (int what = 0; what <= 3; what++) {
                Probes x = Check.path(text.toString());
                for (int source = 0; source <= 4; source++) {
                    Check.due("packets(" + source + ", " + what + ") of " + sources, x.packets(source, what),
                            source < sources || source == 4 ? 0 : BAD);
                }
                noPackets(x, -1, what);
                noPackets(x, 5, what);
                if (sources < 4) noPackets(x, sources, what);
            }
            text.append("cross 1;");
        }
        for (int source : new int[] {Integer.MIN_VALUE, -4, 6, 2000, Integer.MAX_VALUE}) noPackets(Check.busy(), source, 0);
        Check.says("packets: BAD if what is not 0 to 3");
        for (int what : new int[] {-1, 4, 5, Integer.MIN_VALUE, Integer.MAX_VALUE}) {
            noPackets(Check.busy(), 0, what);
            noPackets(Check.busy(), 2, what);
            noPackets(Check.busy(), 4, what);
            noPackets(new Probes(), 4, what);
        }
        Check.says("packets: the plan is not a source, but 4 are the probes, with a plan or without");
        Check.same(Check.path("plan 2;"), 0, x -> x.packets(4, 0));
        noPackets(Check.path("plan 2;"), 0, 0);
    }

    private static void noPackets(Probes x, int source, int what) {
        Check.refused(x, BAD, p -> p.packets(source, what));
    }

    private static void packets(Probes x, int source, String due) {
        StringBuilder all = new StringBuilder();
        for (int what = 0; what <= 3; what++) all.append(what == 0 ? "" : " ").append(x.packets(source, what));
        Check.holds("packets of " + source + ": " + due + ", not " + all, all.toString().equals(due));
    }

    private static void packetsOfNone() {
        Check.says("packets: those that arrived, were lost, left, are in the queue");
        Probes x = Check.path("room 3;cross 0;cross 20 0 0 0;cross 1 0 0 0;");
        for (int source = 0; source <= 2; source++) packets(x, source, "0 0 0 0");
        packets(x, 4, "0 0 0 0");
        x.asks(2);
        x.steps(1);
        packets(x, 0, "0 0 0 0");
        packets(x, 1, "20 17 1 2");
        packets(x, 2, "1 1 0 0");
        packets(x, 4, "1 1 0 0");
        x.steps(1);
        packets(x, 1, "20 17 2 1");
        packets(x, 4, "2 1 0 1");
        x.steps(1);
        packets(x, 1, "20 17 3 0");
        packets(x, 4, "2 1 0 1");
        x.steps(1);
        packets(x, 4, "2 1 1 0");
    }

    private static void delayRange() {
        Check.says("delay: BAD if what is not 0 to 2");
        for (int what : new int[] {-1, 3, 4, Integer.MIN_VALUE, Integer.MAX_VALUE}) {
            Check.refused(Check.busy(), BAD, x -> x.delay(what));
            Check.refused(new Probes(), BAD, x -> x.delay(what));
        }
    }

    private static void delayOfNone() {
        Check.says("delay: the greatest delay, 0 if none has left");
        for (int asked = 0; asked <= 2; asked++) {
            int what = asked;
            Check.same(new Probes(), 0, x -> x.delay(what));
            Probes x = Check.path("cross 1 0;");
            x.asks(2);
            x.steps(1);
            Check.same(x, 0, p -> p.delay(what));
            x.steps(1);
            Check.same(x, 1, p -> p.delay(what));
        }
        Check.says("delay: how many, their sum, and the greatest, 0 if all left at once");
        Probes x = new Probes();
        x.asks(3);
        x.steps(3);
        Check.due("how many", x.delay(0), 3);
        Check.due("sum", x.delay(1), 0);
        Check.due("greatest", x.delay(2), 0);
        x = Check.path("room 40;cross 20 (((0)8)5)9;cross 19 (((0)8)5)9;");
        x.asks(2);
        x.steps(1);
        x.breaks(0);
        Check.passed(x, 38);
        Check.due("none has left after 39 slots", x.delay(0), 0);
        x.steps(1);
        Check.due("one after 40", x.delay(0), 1);
        Check.due("the longest delay that can be", x.delay(2), 39);
        Check.due("its sum", x.delay(1), 39);
        Check.says("delay: a probe that is lost does not leave");
        x = Check.path("room 1;cross 1;");
        x.asks(3);
        x.steps(9);
        Check.due("how many", x.delay(0), 0);
    }

    private static void underRange() {
        Check.says("under: BAD if there is no such experiment");
        for (int what = 0; what <= 2; what++) noExperiment(new Probes(), 0, what);
        for (int active = 0; active <= 4; active++) {
            Probes x = new Probes();
            for (int i = 0; i < active; i++) x.asks(2);
            noExperiment(x, 0, 0);
            x.steps(1);
            for (int what = 0; what <= 2; what++) {
                noExperiment(x, -1, what);
                noExperiment(x, active, what);
                if (active > 0) Check.due("the last one", x.under(active - 1, what), what == 0 ? 2 : 0);
            }
            x.steps(1);
            noExperiment(x, 0, 0);
        }
        for (int k : new int[] {Integer.MIN_VALUE, 20, 21, 100, Integer.MAX_VALUE}) noExperiment(Check.busy(), k, 0);
        Check.says("under: BAD if what is not 0 to 2");
        for (int what : new int[] {-1, 3, 4, Integer.MIN_VALUE, Integer.MAX_VALUE}) {
            noExperiment(Check.busy(), 0, what);
            noExperiment(new Probes(), 0, what);
        }
        Check.says("under: as many as a plan, draws and requests can make active");
        Probes x = Check.path("plan 3;");
        x.draws(16, 7);
        for (int slot = 0; slot < 3; slot++) {
            for (int i = 0; i < 4; i++) x.asks(3);
            x.steps(1);
        }
        int active = x.count(8);
        Check.holds("10 triples at least are active", active >= 10);
        Check.holds("the last one began in slot 2", x.under(active - 1, 1) == 2);
        noExperiment(x, active, 0);
    }

    private static void noExperiment(Probes x, int k, int what) {
        Check.refused(x, BAD, p -> p.under(k, what));
    }

    private static void underBits() {
        Check.says("under: the bits that its probes have seen so far, the first one being the highest of these");
        for (int first = 0; first <= 1; first++) {
            for (int second = 0; second <= 1; second++) {
                Probes x = Check.path("room 1;cross " + first + " " + second + " 0;");
                x.asks(3);
                x.steps(1);
                int one = first, two = 2 * first + second;
                Check.same(x, one, p -> p.under(0, 2));
                x.steps(1);
                Check.same(x, two, p -> p.under(0, 2));
                Check.same(x, 3, p -> p.under(0, 0));
                Check.same(x, 0, p -> p.under(0, 1));
            }
        }
    }
}
