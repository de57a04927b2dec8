/** Promises 10 to 15: lossy, slot, episode, packets, delay, under. */
public final class RecordsTest {
    public static void main(String[] args) {
        lossy();
        slot();
        episodes();
        lastSlots();
        packets();
        delay();
        under();
        nothingChanges();
        Check.end("RecordsTest");
    }

    /** Room for 2, and 4 packets in each third slot: slots 0, 3, 6 .. lose 2. */
    private static Probes eachThird() {
        return Check.path("room 2; rate 2; cross 4 0 0;");
    }

    private static void lossy() {
        Probes x = eachThird();
        Check.due("before slot 0", x.lossy(0), EpisodeProbes.NONE);
        x.steps(5);
        for (int slot = 0; slot < 5; slot++) Check.due("lossy " + slot, x.lossy(slot), slot % 3 == 0 ? 1 : 0);
        Check.due("not yet", x.lossy(5), EpisodeProbes.NONE);
        Check.due("the last one", x.lossy(1999), EpisodeProbes.NONE);
        Check.due("above", x.lossy(2000), EpisodeProbes.BAD);
        Check.due("below", x.lossy(-1), EpisodeProbes.BAD);
        x = Check.path("room 1; plan 2 0 0;");
        x.asks(2);
        x.steps(1);
        Check.due("a lost probe makes a slot lossy", x.lossy(0), 1);
        x = Check.path("mark 0; plan 2;");
        x.steps(1);
        Check.due("a probe that sees 1 does not", x.lossy(0), 0);
    }

    private static void slot() {
        Probes x = Check.path("room 3; mark 2; rate 3; cross 1 0 5; plan 2 3;");
        x.asks(2);
        x.asks(2);
        x.steps(3);
        Check.due("probes of slot 0", x.slot(0, 0), 3);
        Check.due("two of them saw 1", x.slot(0, 1), 2);
        Check.due("one was lost", x.slot(0, 2), 1);
        Check.due("probes of slot 1", x.slot(1, 0), 4);
        Check.due("two of them saw 1", x.slot(1, 1), 2);
        Check.due("one was lost", x.slot(1, 2), 1);
        Check.due("probes of slot 2", x.slot(2, 0), 2);
        Check.due("all of them saw 1", x.slot(2, 1), 2);
        Check.due("two packets and all probes were lost", x.slot(2, 2), 4);
        for (int what = 0; what <= 2; what++) {
            Check.due("not yet", x.slot(3, what), EpisodeProbes.NONE);
            Check.due("the last one", x.slot(1999, what), EpisodeProbes.NONE);
            Check.due("above", x.slot(2000, what), EpisodeProbes.BAD);
            Check.due("below", x.slot(-1, what), EpisodeProbes.BAD);
        }
        Check.due("what below", x.slot(0, -1), EpisodeProbes.BAD);
        Check.due("what above", x.slot(0, 3), EpisodeProbes.BAD);
        Check.due("BAD is before NONE", x.slot(3, 3), EpisodeProbes.BAD);
        x.breaks(0);
        Check.due("the probes of an aborted experiment stay", x.slot(2, 0), 2);
    }

    private static void episode(Probes x, int k, String due) {
        StringBuilder all = new StringBuilder();
        for (int what = 0; what <= 5; what++) all.append(what == 0 ? "" : " ").append(x.episode(k, what));
        Check.holds("episode " + k + " is " + due + ", not " + all, all.toString().equals(due));
    }

    private static void episodes() {
        Probes x = Check.path("room 2; rate 2; cross 0 3 4 0 0 5; plan 0 0 2 0 3 0;");
        Check.due("none yet", x.episode(0, 0), EpisodeProbes.BAD);
        x.steps(1);
        Check.due("none yet", x.episode(0, 0), EpisodeProbes.BAD);
        x.steps(1);
        episode(x, 0, "1 1 1 0 0 0");
        x.steps(1);
        episode(x, 0, "1 2 4 0 1 1");
        Check.due("one", x.count(4), 1);
        x.steps(1);
        episode(x, 0, "1 2 4 1 1 1");
        x.steps(2);
        episode(x, 1, "5 1 4 0 1 1");
        x.steps(1);
        episode(x, 1, "5 1 4 1 1 1");
        x.steps(1);
        episode(x, 2, "7 1 1 0 0 0");
        Check.due("behind the last one", x.episode(3, 0), EpisodeProbes.BAD);
        Check.due("below", x.episode(-1, 0), EpisodeProbes.BAD);
        Check.due("what below", x.episode(0, -1), EpisodeProbes.BAD);
        Check.due("what above", x.episode(0, 6), EpisodeProbes.BAD);
        Check.due("episodes", x.count(4), 3);
        x = Check.path("room 40; rate 9; mark 1; cross 9 9 9 20 20 20 20 0; plan 3;");
        x.steps(20);
        Check.due("probes seen in an episode", x.episode(0, 4) - x.episode(0, 5), 0);
        x = Check.path("cross 20;");
        x.steps(32);
        episode(x, 0, "0 32 599 0 0 0");
    }

    /** As many episodes as there can be, and one as long as can be. */
    private static void lastSlots() {
        Probes x = Check.path("room 1; cross 0 2;");
        for (int i = 0; i < 62; i++) x.steps(32);
        x.steps(16);
        Check.due("episodes", x.count(4), 1000);
        episode(x, 999, "1999 1 1 0 0 0");
        episode(x, 998, "1997 1 1 1 0 0");
        Check.due("behind the last one", x.episode(1000, 0), EpisodeProbes.BAD);
        Check.due("the last slot", x.lossy(1999), 1);
        Check.due("truth", x.truth(0, 1) * 10 + x.truth(1, 0), 21);
        x = Check.path("room 1; cross 2;");
        for (int i = 0; i < 62; i++) x.steps(32);
        x.steps(16);
        episode(x, 0, "0 2000 2000 0 0 0");
    }

    private static void packets(Probes x, int source, String due) {
        StringBuilder all = new StringBuilder();
        for (int what = 0; what <= 3; what++) all.append(what == 0 ? "" : " ").append(x.packets(source, what));
        Check.holds("packets of " + source + ": " + due + ", not " + all, all.toString().equals(due));
    }

    private static void packets() {
        Probes x = Check.path("room 4; rate 1; cross 2 0; cross 0 4; cross 0; plan 0 2;");
        packets(x, 0, "0 0 0 0");
        x.steps(1);
        packets(x, 0, "2 0 1 1");
        x.steps(1);
        packets(x, 0, "2 0 2 0");
        packets(x, 1, "4 1 0 3");
        packets(x, 2, "0 0 0 0");
        packets(x, 4, "1 1 0 0");
        x.steps(2);
        packets(x, 0, "4 1 2 1");
        packets(x, 1, "8 4 2 2");
        packets(x, 4, "3 3 0 0");
        Check.due("no such source", x.packets(3, 0), EpisodeProbes.BAD);
        Check.due("behind the probes", x.packets(5, 0), EpisodeProbes.BAD);
        Check.due("below", x.packets(-1, 0), EpisodeProbes.BAD);
        Check.due("what above", x.packets(0, 4), EpisodeProbes.BAD);
        Check.due("what below", x.packets(4, -1), EpisodeProbes.BAD);
        x = new Probes();
        packets(x, 4, "0 0 0 0");
        Check.due("no source", x.packets(0, 0), EpisodeProbes.BAD);
        x.asks(3);
        x.asks(3);
        x.steps(2);
        packets(x, 4, "4 0 2 2");
    }

    private static void delay(Probes x, String due) {
        StringBuilder all = new StringBuilder();
        for (int what = 0; what <= 2; what++) all.append(what == 0 ? "" : " ").append(x.delay(what));
        Check.holds("delays: " + due + ", not " + all, all.toString().equals(due));
    }

    private static void delay() {
        Probes x = Check.path("room 9; rate 2; cross 6 0 0 0 0 0; plan 2 0 0 3 0 0;");
        delay(x, "0 0 0");
        x.steps(3);
        delay(x, "0 0 0");
        x.steps(1);
        // The probes of slots 0 and 1 leave in slot 3.
        delay(x, "2 5 3");
        x.steps(1);
        delay(x, "4 6 3");
        x.steps(1);
        delay(x, "5 6 3");
        Check.due("below", x.delay(-1), EpisodeProbes.BAD);
        Check.due("above", x.delay(3), EpisodeProbes.BAD);
        x = Check.path("room 1; cross 1; plan 2;");
        x.steps(9);
        delay(x, "0 0 0");
    }

    private static void under() {
        Probes x = Check.path("room 2; rate 1; cross 0 0 2 0;");
        x.steps(1);
        Check.due("none", x.under(0, 0), EpisodeProbes.BAD);
        x.asks(3);
        x.steps(1);
        Check.due("kind", x.under(0, 0), 3);
        Check.due("begin", x.under(0, 1), 1);
        Check.due("bits", x.under(0, 2), 0);
        x.asks(2);
        x.steps(1);
        Check.due("bits 01", x.under(0, 2), 1);
        Check.due("kind", x.under(1, 0), 2);
        Check.due("begin", x.under(1, 1), 2);
        Check.due("bits 1", x.under(1, 2), 1);
        Check.due("behind", x.under(2, 0), EpisodeProbes.BAD);
        Check.due("below", x.under(-1, 0), EpisodeProbes.BAD);
        Check.due("what above", x.under(0, 3), EpisodeProbes.BAD);
        Check.due("what below", x.under(0, -1), EpisodeProbes.BAD);
        x.asks(3);
        x.steps(1);
        Check.due("both are complete", x.under(0, 1), 3);
        Check.due("patterns", x.pattern(3, 2) + x.pattern(2, 3), 2);
        x = Check.path("mark 0;");
        x.asks(3);
        x.steps(2);
        Check.due("the first bit is the highest of those so far", x.under(0, 2), 3);
    }

    private static void nothingChanges() {
        Probes x = Check.path("room 3; mark 2; cross 2 0 3; plan 2 0 3;");
        x.steps(17);
        String before = Picture.of(x);
        for (int i = -2; i < 6; i++) {
            x.lossy(i);
            x.delay(i);
            for (int j = -1; j < 7; j++) {
                x.slot(i, j);
                x.episode(i, j);
                x.packets(i, j);
                x.under(i, j);
            }
        }
        Check.holds("asking changes nothing", Picture.of(x).equals(before));
    }
}
