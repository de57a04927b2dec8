/** Promises 6 to 9: steps, asks, draws, breaks. */
public final class SlotsTest {
    public static void main(String[] args) {
        stepsRange();
        stepsLimit();
        order();
        queue();
        asks();
        plan();
        budget();
        draws();
        breaks();
        breaksFreesBudget();
        Check.end("SlotsTest");
    }

    private static void stepsRange() {
        Probes x = Check.path("room 2; cross 3 0 4;");
        String before = Picture.of(x);
        Check.due("steps(0)", x.steps(0), EpisodeProbes.BAD);
        Check.due("steps(-1)", x.steps(-1), EpisodeProbes.BAD);
        Check.due("steps(33)", x.steps(33), EpisodeProbes.BAD);
        Check.holds("a wrong n changes nothing", Picture.of(x).equals(before));
        Check.due("steps(1)", x.steps(1), 1);
        Check.due("steps(2)", x.steps(2), 1);
        Check.due("steps(3)", x.steps(3), 2);
        Check.due("slots that have passed", x.count(0), 6);
        Check.due("steps(32)", x.steps(32), 21);
        Check.due("no loss", new Probes().steps(32), 0);
    }

    private static void stepsLimit() {
        Probes x = Check.path("plan 0 0 0 0 0 0 0 0 0 3;");
        for (int i = 0; i < 62; i++) x.steps(32);
        Check.due("1984 slots", x.count(0), 1984);
        String before = Picture.of(x);
        Check.due("17 more", x.steps(17), EpisodeProbes.FULL);
        Check.due("BAD is before FULL", x.steps(33), EpisodeProbes.BAD);
        Check.holds("FULL changes nothing", Picture.of(x).equals(before));
        Check.due("16 more", x.steps(16), 0);
        Check.due("one more", x.steps(1), EpisodeProbes.FULL);
        Check.due("2000 slots", x.count(0), 2000);
        Check.due("the last slot", x.lossy(1999), 0);
        Check.due("its probe", x.slot(1999, 0), 1);
        Check.due("an experiment is still active", x.under(0, 1), 1999);
        Check.due("its probes are still to come", x.ahead(3, 20), 11 + 20 + 19);
        Check.due("aborted", x.breaks(0), 1);
        Check.due("the probes do not come", x.ahead(3, 20), 10 + 19 + 19);
    }

    /** Sources come in their order, then the probes in the order of their begin. */
    private static void order() {
        Probes x = Check.path("room 3; mark 2; rate 3; cross 1; cross 1; plan 2;");
        x.asks(3);
        x.asks(2);
        Check.due("two of three probes are lost", x.steps(1), 1);
        Check.due("lost", x.slot(0, 2), 2);
        Check.due("the first probe enters, but sees the mark", x.under(0, 2), 1);
        Check.due("source 0 loses nothing", x.packets(0, 1), 0);
        Check.due("source 1 loses nothing", x.packets(1, 1), 0);
        Check.due("the plan's is first", x.under(0, 0), 2);
        Check.due("then the requested ones in their order", x.under(1, 0), 3);
        Check.due("then the requested ones in their order", x.under(2, 0), 2);
        x = Check.path("room 2; cross 3; cross 1;");
        x.steps(1);
        Check.due("source 0 fills the queue", x.packets(0, 1), 1);
        Check.due("source 1 finds it full", x.packets(1, 1), 1);
        x = Check.path("plan 3;");
        x.draws(16, 5);
        x.asks(3);
        x.steps(1);
        Check.due("the plan's, the drawn, the requested", x.under(0, 0) * 100 + x.under(1, 0) * 10 + x.under(2, 0), 323);
        x = Check.path("mark 1; room 2; rate 1;");
        x.asks(2);
        x.asks(2);
        x.asks(2);
        x.steps(1);
        Check.due("an empty queue is below the mark", x.under(0, 2), 0);
        Check.due("at the mark", x.under(1, 2), 1);
        Check.due("lost", x.under(2, 2), 1);
        Check.due("one is lost", x.packets(4, 1), 1);
        x.steps(1);
        Check.due("the patterns", x.pattern(2, 1), 1);
        Check.due("the patterns", x.pattern(2, 3), 2);
        x = Check.path("mark 0;");
        x.asks(2);
        x.steps(2);
        Check.due("with the mark 0 every probe sees 1", x.pattern(2, 3), 1);
        x = Check.path("room 1; mark 40; cross 1 0;");
        x.asks(3);
        x.steps(3);
        Check.due("lost, seen, lost: the first probe is the highest bit", x.pattern(3, 5), 1);
    }

    private static void queue() {
        Probes x = Check.path("room 4; rate 2; cross 5 0 0 1;");
        x.steps(1);
        Check.due("one of 5 is lost", x.count(2), 1);
        Check.due("two of 4 have left", x.count(1), 2);
        x.steps(1);
        Check.due("the queue is empty", x.count(1), 0);
        x.steps(1);
        Check.due("none can leave", x.packets(0, 2), 4);
        x.steps(1);
        Check.due("one of one leaves", x.packets(0, 2), 5);
        // The last place of the store is used, and the first again.
        x = Check.path("room 40; rate 9; cross 20 20 4 9;");
        x.steps(32);
        Check.due("none is lost but what the capacity does not hold", x.packets(0, 0) - x.packets(0, 1) - x.packets(0, 2), x.count(1));
        Check.due("the queue does not pass the capacity", x.count(1), 26);
    }

    private static void asks() {
        Probes x = new Probes();
        for (int kind = -2; kind <= 6; kind++) {
            if (kind != 2 && kind != 3) Check.due("asks " + kind, x.asks(kind), EpisodeProbes.BAD);
        }
        Check.due("asks", x.asks(2), 1);
        Check.due("asks", x.asks(3), 2);
        Check.due("asks", x.asks(3), 3);
        Check.due("asks", x.asks(2), 4);
        Check.due("a fifth", x.asks(3), EpisodeProbes.FULL);
        Check.due("BAD is before FULL", x.asks(4), EpisodeProbes.BAD);
        Check.due("four are requested", x.count(9), 4);
        x.steps(1);
        Check.due("none is requested then", x.count(9), 0);
        Check.due("four have begun", x.count(5), 4);
        Check.due("in their order", x.under(0, 0) * 1000 + x.under(1, 0) * 100 + x.under(2, 0) * 10 + x.under(3, 0), 2332);
        Check.due("asks again", x.asks(2), 1);
        x.steps(1);
        Check.due("the pairs are complete", x.count(8), 3);
        Check.due("the next one is last", x.under(2, 1), 1);
        x.steps(1);
        Check.due("patterns of pairs", x.pattern(2, 0), 3);
        Check.due("patterns of triples", x.pattern(3, 0), 2);
        x = Check.path("budget 0 1;");
        x.asks(2);
        x.steps(2);
        Check.due("a rejected request is gone", x.count(6) * 10 + x.count(9), 10);
    }

    private static void plan() {
        Probes x = Check.path("plan 0 2 0 3;");
        x.steps(4);
        Check.due("begun", x.count(5), 2);
        Check.due("the triple of slot 3", x.under(0, 0) * 10 + x.under(0, 1), 33);
        x.steps(4);
        Check.due("the plan comes again", x.count(5), 4);
        for (int slot = 0; slot < 8; slot++) {
            Check.due("probes of slot " + slot, x.slot(slot, 0), "01111211".charAt(slot) - '0');
        }
        Check.due("patterns", x.pattern(2, 0) * 10 + x.pattern(3, 0), 21);
    }

    private static void budget() {
        Probes x = Check.path("budget 2 2;");
        x.asks(2);
        x.asks(2);
        x.steps(1);
        Check.due("a second pair would make 4 probes in 2 slots", x.count(6), 1);
        x.asks(2);
        x.steps(1);
        Check.due("slots 1 and 2 would have 3", x.count(6), 2);
        x.asks(2);
        x.steps(1);
        Check.due("slots 1 and 2, and 2 and 3 have 2", x.count(5) * 10 + x.count(6), 22);
        x = Check.path("budget 3 16;");
        x.asks(2);
        x.asks(2);
        x.steps(1);
        Check.due("slot 0 counts in what would begin before it", x.count(6), 1);
        x = Check.path("budget 3 4;");
        x.asks(3);
        x.steps(3);
        x.asks(2);
        x.steps(1);
        Check.due("slots 1 to 4 would have 4", x.count(6), 1);
        x.asks(2);
        x.steps(1);
        Check.due("slots 1 to 4, and 2 to 5 have 3", x.count(5) * 10 + x.count(6), 21);
        x = Check.path("budget 3 1;");
        x.asks(2);
        x.asks(3);
        x.asks(2);
        x.asks(2);
        x.steps(1);
        Check.due("three at once", x.count(5) * 10 + x.count(6), 31);
        x = Check.path("budget 1 1;");
        x.asks(3);
        x.steps(1);
        x.asks(2);
        x.steps(1);
        x.steps(1);
        x.asks(2);
        x.steps(1);
        Check.due("the probes of a triple are still to come in slot 2", x.count(5) * 10 + x.count(6), 21);
        x = Check.path("budget 4 3; plan 3;");
        x.asks(2);
        x.steps(1);
        Check.due("the plan is served before a request", x.under(0, 0) * 10 + x.count(6), 31);
        x = Check.path("budget 3 3;");
        x.asks(2);
        x.steps(1);
        x.asks(3);
        x.steps(1);
        Check.due("a window that ends behind the pair", x.count(6), 1);
        x = Check.path("budget 20 16;");
        for (int i = 0; i < 6; i++) {
            x.asks(3);
            x.steps(1);
        }
        x.asks(2);
        x.asks(3);
        x.steps(1);
        Check.due("20 in 16 slots: 18 and a pair, but no triple", x.count(5) * 10 + x.count(6), 71);
        x.steps(8);
        x.asks(2);
        x.steps(1);
        Check.due("slots 0 to 15", x.count(6), 2);
        x.asks(2);
        x.steps(1);
        Check.due("slots 1 to 16 have 19 and 1, slots 2 to 17 have 17 and 2", x.count(5), 8);
    }

    private static void draws() {
        Probes x = new Probes();
        Check.due("draws", x.draws(16, -5), 0);
        Check.due("draws", x.draws(7, 1), 16);
        Check.due("below", x.draws(-1, 1), EpisodeProbes.BAD);
        Check.due("above", x.draws(17, 1), EpisodeProbes.BAD);
        Check.due("the chance is as before", x.draws(0, 0), 7);
        x.steps(32);
        Check.due("no chance, no experiment", x.count(5) + x.count(6), 0);
        for (int chance = 0; chance <= 16; chance++) drawsLike(chance, 123456789 * (chance + 1));
        drawsLike(8, -1);
        drawsLike(8, Integer.MIN_VALUE);
        drawsLike(15, Integer.MAX_VALUE);
        x = new Probes();
        x.draws(16, 99);
        x.steps(3);
        x.draws(17, 5);
        x.draws(16, 99);
        x.steps(1);
        Check.due("X begins anew with draws", x.under(x.count(8) - 1, 0), kindAfter(69069 * 99 + 1));
    }

    private static int kindAfter(int x) {
        return (x >> 27 & 1) == 1 ? 3 : 2;
    }

    private static void drawsLike(int chance, int from) {
        Probes x = new Probes();
        x.draws(chance, from);
        int begun = 0, next = from;
        for (int slot = 0; slot < 100; slot++) {
            next = 69069 * next + 1;
            x.steps(1);
            boolean isDrawn = (next >>> 28) < chance;
            if (isDrawn) {
                begun++;
                int last = x.count(8) - 1;
                Check.due("kind drawn in slot " + slot, x.under(last, 0), kindAfter(next));
                Check.due("begun in slot " + slot, x.under(last, 1), slot);
            }
            Check.due("experiments drawn until slot " + slot, x.count(5), begun);
        }
    }

    private static void breaks() {
        Probes x = new Probes();
        Check.due("none is active", x.breaks(0), EpisodeProbes.BAD);
        x.asks(3);
        x.asks(2);
        Check.due("none is active before the slot", x.breaks(0), EpisodeProbes.BAD);
        x.steps(1);
        x.asks(3);
        String before = Picture.of(x);
        Check.due("below", x.breaks(-1), EpisodeProbes.BAD);
        Check.due("behind", x.breaks(2), EpisodeProbes.BAD);
        Check.holds("nothing is changed", Picture.of(x).equals(before));
        x.steps(1);
        Check.due("two are active", x.count(8), 2);
        Check.due("the older one has sent 2", x.breaks(0), 2);
        Check.due("the other one is first now", x.under(0, 1), 1);
        Check.due("it has sent 1", x.breaks(0), 1);
        Check.due("none is left", x.breaks(0), EpisodeProbes.BAD);
        Check.due("aborted", x.count(7), 2);
        Check.due("they have begun all the same", x.count(5), 3);
        Probes y = Check.path("room 2; cross 0 2 0;");
        y.asks(3);
        y.steps(1);
        y.asks(2);
        y.asks(3);
        y.steps(1);
        Check.due("three are active", y.under(0, 2) * 100 + y.under(1, 2) * 10 + y.under(2, 2), 111);
        y.breaks(0);
        Check.due("kind, begin and bits move up", y.under(0, 0) * 100 + y.under(0, 1) * 10 + y.under(0, 2), 211);
        Check.due("kind, begin and bits move up", y.under(1, 0) * 100 + y.under(1, 1) * 10 + y.under(1, 2), 311);
        Check.due("the last one is gone", y.under(2, 0), EpisodeProbes.BAD);
        y = Check.path("rate 3; mark 2; cross 2 0 0 0;");
        y.asks(3);
        y.steps(1);
        y.asks(3);
        y.steps(1);
        Check.due("bits 10 and 0", y.under(0, 2) * 10 + y.under(1, 2), 20);
        y.breaks(0);
        Check.due("bits 0", y.under(0, 2), 0);
        y.steps(2);
        Check.due("the pattern 000", y.pattern(3, 0), 1);
        y = Check.path("mark 1; cross 0 1 0;");
        y.asks(3);
        y.steps(1);
        y.asks(3);
        y.steps(1);
        Check.due("bits 01 and 1", y.under(0, 2) * 10 + y.under(1, 2), 11);
        y.breaks(0);
        y.steps(2);
        Check.due("the pattern of the other one", y.pattern(3, 7), 1);
        x.steps(3);
        Check.due("their patterns are not counted", x.pattern(3, 0), 0);
        Check.due("the pair's is", x.pattern(2, 0), 1);
        Check.due("they send no more", x.slot(2, 0), 0);
        Check.due("what they sent stays", x.slot(1, 0), 3);
    }

    private static void breaksFreesBudget() {
        Probes x = Check.path("budget 3 4;");
        x.asks(3);
        x.steps(1);
        x.breaks(0);
        x.asks(3);
        x.steps(1);
        Check.due("the probe that was sent counts", x.count(6), 1);
        x.asks(2);
        x.steps(1);
        Check.due("those that are not sent do not", x.count(5), 2);
        Check.due("slot 1", x.slot(1, 0), 0);
        Check.due("slot 2", x.slot(2, 0), 1);
    }
}
