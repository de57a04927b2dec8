/** The boundaries of promises 29 to 32, each sentence on both sides. */
public final class PredictionEdgesTest {
    private static final int BAD = EpisodeProbes.BAD, NONE = EpisodeProbes.NONE;

    public static void main(String[] args) {
        stabRange();
        stabNone();
        stabReach();
        stabLatest();
        stabAtTheEnds();
        aheadRange();
        aheadSlots();
        aheadMore();
        aheadExperiments();
        aheadQueue();
        aheadBeyond();
        enoughRange();
        enoughCapacities();
        enoughQueue();
        countRange();
        countEach();
        Check.end("PredictionEdgesTest");
    }

    /** Slots that are lossy where the string has a 1. */
    private static Probes lossy(String bits) {
        StringBuilder text = new StringBuilder("room 1;cross");
        for (int i = 0; i < bits.length(); i++) text.append(bits.charAt(i) == '1' ? " 2" : " 0");
        return Check.passed(Check.path(text.append(';').toString()), bits.length());
    }

    private static void stabs(String bits, int width, int... due) {
        Probes x = lossy(bits);
        Check.answers(x, due.length, p -> p.stab(width, -1));
        for (int k = 0; k < due.length; k++) {
            int index = k;
            Check.answers(x, due[k], p -> p.stab(width, index));
        }
        Check.answers(x, NONE, p -> p.stab(width, due.length));
    }

    private static void stabRange() {
        Check.says("stab: BAD if width is out of range, 1 to 4, or k is below -1");
        for (int width : new int[] {0, -1, 5, 6, Integer.MIN_VALUE, Integer.MAX_VALUE}) {
            for (int k : new int[] {-2, -1, 0, 1, 9}) noStab(width, k);
        }
        for (int k : new int[] {-2, -3, Integer.MIN_VALUE}) {
            for (int width = 0; width <= 5; width++) noStab(width, k);
        }
        for (int width = 1; width <= 4; width++) {
            int w = width;
            Check.same(lossy("0101"), width <= 2 ? 2 : 1, x -> x.stab(w, -1));
            Check.same(lossy("0101"), 1, x -> x.stab(w, 0));
        }
    }

    private static void noStab(int width, int k) {
        Check.refused(lossy("0101"), BAD, x -> x.stab(width, k));
        Check.refused(new Probes(), BAD, x -> x.stab(width, k));
    }

    private static void stabNone() {
        Check.says("stab: NONE if there is no such experiment; 0 experiments without episodes");
        for (int width = 1; width <= 4; width++) {
            int w = width;
            Check.same(new Probes(), 0, x -> x.stab(w, -1));
            Check.same(new Probes(), NONE, x -> x.stab(w, 0));
            Check.same(lossy("000"), 0, x -> x.stab(w, -1));
            Check.same(lossy("000"), NONE, x -> x.stab(w, 0));
            Check.same(lossy("000"), NONE, x -> x.stab(w, Integer.MAX_VALUE));
            Check.same(lossy("010"), 1, x -> x.stab(w, -1));
            Check.same(lossy("010"), 1, x -> x.stab(w, 0));
            Check.same(lossy("010"), NONE, x -> x.stab(w, 1));
            Check.same(lossy("010"), NONE, x -> x.stab(w, Integer.MAX_VALUE));
        }
        Check.same(lossy("10000100001"), 10, x -> x.stab(4, 2));
        Check.same(lossy("10000100001"), NONE, x -> x.stab(4, 3));
    }

    private static void stabReach() {
        Check.says("stab: an experiment of so many consecutive slots just reaches the next episode, or does not");
        for (int width = 1; width <= 4; width++) {
            for (int gap = 1; gap <= 5; gap++) {
                String bits = "01" + "00000".substring(0, gap) + "1";
                // The second episode is in the slot 1 + gap + 1.
                if (gap + 1 <= width - 1) stabs(bits, width, 1);
                else stabs(bits, width, 1, gap + 2);
                bits = "0111" + "00000".substring(0, gap) + "11";
                if (gap + 1 <= width - 1) stabs(bits, width, 3);
                else stabs(bits, width, 3, gap + 5);
            }
        }
        Check.says("stab: one experiment may see more than two episodes");
        stabs("010101", 4, 1, 5);
        stabs("10101", 4, 0, 4);
        stabs("1010101", 4, 0, 4);
        stabs("1010101", 3, 0, 4);
        stabs("1010101", 2, 0, 2, 4, 6);
        stabs("1010101", 1, 0, 2, 4, 6);
    }

    private static void stabLatest() {
        Check.says("stab: of several choices the one whose first slot is latest, of these the one whose second one is latest");
        stabs("1111", 1, 3);
        stabs("1111", 4, 3);
        stabs("111011101110111", 1, 2, 6, 10, 14);
        stabs("111011101110111", 2, 2, 6, 10, 14);
        stabs("111011101110111", 3, 2, 10);
        stabs("111011101110111", 4, 2, 10);
        stabs("1101011", 3, 1, 6);
        stabs("1101011", 4, 1, 6);
        Check.says("stab: an episode that is not over has its last slot so far");
        Probes x = Check.path("room 1;cross 2 2 2 0;");
        int[] due = {0, 1, 2, 2};
        for (int slot = 0; slot < 4; slot++) {
            x.steps(1);
            Check.due("after " + (slot + 1) + " slots", x.stab(2, 0), due[slot]);
        }
    }

    private static void stabAtTheEnds() {
        Check.says("stab: a slot s of 0 or more");
        stabs("1", 4, 0);
        stabs("10", 4, 0);
        stabs("01", 4, 1);
        Check.says("stab: the probes of the last experiment may come after the slots that have passed");
        Probes x = Check.passed(Check.path("room 1;cross 0 2;"), 2000);
        Check.answers(x, 1000, p -> p.stab(1, -1));
        Check.answers(x, 1000, p -> p.stab(2, -1));
        Check.answers(x, 1999, p -> p.stab(2, 999));
        Check.answers(x, NONE, p -> p.stab(2, 1000));
        Check.answers(x, 500, p -> p.stab(3, -1));
        Check.answers(x, 500, p -> p.stab(4, -1));
        Check.answers(x, 1, p -> p.stab(4, 0));
        Check.answers(x, 1997, p -> p.stab(4, 499));
        Check.answers(x, NONE, p -> p.stab(4, 500));
        x = Check.passed(Check.path("room 1;cross 2;"), 2000);
        Check.answers(x, 1, p -> p.stab(4, -1));
        Check.answers(x, 1999, p -> p.stab(4, 0));
    }

    private static void aheadRange() {
        Check.says("ahead: BAD if n or more is out of range, 1 to 64 and 0 to 20");
        for (int n : new int[] {0, -1, 65, 66, Integer.MIN_VALUE, Integer.MAX_VALUE}) {
            for (int more : new int[] {-1, 0, 20, 21}) noAhead(n, more);
        }
        for (int more : new int[] {-1, 21, 22, Integer.MIN_VALUE, Integer.MAX_VALUE}) {
            for (int n : new int[] {0, 1, 64, 65}) noAhead(n, more);
        }
        Check.same(new Probes(), 0, x -> x.ahead(1, 0));
        Check.same(new Probes(), 10, x -> x.ahead(1, 20));
        Check.same(new Probes(), 0, x -> x.ahead(64, 0));
        Check.same(new Probes(), 10 + 63 * 19, x -> x.ahead(64, 20));
    }

    private static void noAhead(int n, int more) {
        Check.refused(Check.busy(), BAD, x -> x.ahead(n, more));
    }

    private static void aheadSlots() {
        Check.says("ahead: in the next n slots");
        Probes x = Check.path("room 1;cross 2;");
        for (int n = 1; n <= 64; n++) Check.due("ahead(" + n + ", 0)", x.ahead(n, 0), n);
        Check.says("ahead: nothing is changed");
        Check.same(Check.busy(), Check.busy().ahead(64, 20), p -> p.ahead(64, 20));
        Check.same(Check.busy(), Check.busy().ahead(1, 0), p -> p.ahead(1, 0));
        Check.says("ahead: rows go on from the next slot");
        x = Check.path("room 1;cross 3 0 5 1 1;");
        int[][] due = {{2, 2, 6, 6, 6, 8}, {0, 4, 4, 4, 6, 6}, {4, 4, 4, 6, 6, 10}};
        for (int passed = 0; passed < 3; passed++) {
            for (int n = 1; n <= 6; n++) Check.due("after " + passed + ": ahead(" + n + ", 0)", x.ahead(n, 0), due[passed][n - 1]);
            x.steps(1);
        }
    }

    private static void aheadMore() {
        Check.says("ahead: some more packets arrive in each slot");
        for (int more = 0; more <= 20; more++) {
            Check.due("ahead(1, " + more + ")", new Probes().ahead(1, more), Math.max(0, more - 10));
            Check.due("ahead(2, " + more + ") with room 3 and rate 2", Check.path("room 3;rate 2;").ahead(2, more),
                    Math.max(0, more - 3) + Math.max(0, more - (more >= 3 ? 2 : 3)));
        }
        Check.says("ahead: all those that are lost count: sources, the more, probes");
        Probes x = Check.path("room 5;rate 9;cross 3;");
        x.asks(3);
        x.steps(1);
        Check.due("3 and a probe", x.ahead(1, 0), 0);
        Check.due("3, 1 more and a probe", x.ahead(1, 1), 0);
        Check.due("3, 2 more and a probe", x.ahead(1, 2), 1);
        Check.due("3, 20 more and a probe", x.ahead(1, 20), 19);
    }

    private static void aheadExperiments() {
        Check.says("ahead: no experiment begins, the active ones go on");
        Probes x = Check.path("room 1;cross 1;plan 3;");
        Check.due("the plan begins none", x.ahead(64, 0), 0);
        x.draws(16, 1);
        Check.due("draws begin none", x.ahead(64, 0), 0);
        for (int i = 0; i < 4; i++) x.asks(3);
        Check.due("requests begin none", x.ahead(64, 0), 0);
        for (int kind = 2; kind <= 3; kind++) {
            x = Check.path("room 1;cross 1;");
            x.asks(kind);
            for (int sent = 1; sent <= kind; sent++) {
                x.steps(1);
                for (int n = 1; n <= 4; n++) Check.due(sent + " of " + kind + " sent: ahead " + n, x.ahead(n, 0), Math.min(n, kind - sent));
            }
        }
        Check.says("ahead: those that are aborted do not go on");
        x = Check.path("room 1;cross 1;");
        x.asks(3);
        x.asks(3);
        x.steps(1);
        Check.due("two", x.ahead(2, 0), 4);
        x.breaks(0);
        Check.due("one", x.ahead(2, 0), 2);
        x.breaks(0);
        Check.due("none", x.ahead(2, 0), 0);
    }

    private static void aheadQueue() {
        Check.says("ahead: with the queue as it is");
        Probes x = Check.path("room 9;rate 4;cross 9 0 0 0 0;");
        x.steps(1);
        Check.due("5 wait, 4 have room", x.ahead(1, 4), 0);
        Check.due("5 wait, a fifth has none", x.ahead(1, 5), 1);
        x.steps(1);
        Check.due("1 waits, 8 have room", x.ahead(1, 8), 0);
        Check.due("1 waits, a ninth has none", x.ahead(1, 9), 1);
        x.steps(1);
        Check.due("none waits, 9 have room", x.ahead(1, 9), 0);
        Check.due("none waits, a tenth has none", x.ahead(1, 10), 1);
        Check.says("ahead: all leave if there are fewer than the rate says");
        x = Check.path("room 9;rate 4;");
        Check.due("3 a slot", x.ahead(64, 3), 0);
        Check.due("4 a slot", x.ahead(64, 4), 0);
        // The queue grows by 1 a slot, up to 5 behind a slot; then each slot loses 1.
        Check.due("5 a slot, 5 slots", x.ahead(5, 5), 0);
        Check.due("5 a slot, 6 slots", x.ahead(6, 5), 1);
        Check.due("5 a slot, 7 slots", x.ahead(7, 5), 2);
    }

    private static void aheadBeyond() {
        Check.says("ahead: also beyond 2000 slots");
        Probes x = Check.passed(Check.path("room 1;cross 2 0 2;plan (0)5 3;"), 1999);
        // Slot 1999 has the index 1: 0, 2, 2, 0, 2, 2 .. come.
        int[] due = {0, 1, 2, 2, 3, 4};
        for (int n = 1; n <= 6; n++) Check.due("ahead(" + n + ", 0)", x.ahead(n, 0), due[n - 1]);
        x.asks(3);
        x.steps(1);
        // In each of the slots 2000 and 2001 a probe comes behind two packets.
        due = new int[] {2, 4, 4, 5, 6, 6};
        for (int n = 1; n <= 6; n++) Check.due("ahead(" + n + ", 0)", x.ahead(n, 0), due[n - 1]);
        Check.due("64 slots: 22 times two lossy ones, but one", x.ahead(64, 0), 43 + 2);
        Check.same(x, 1, p -> p.count(8));
    }

    private static void enoughRange() {
        Check.says("enough: BAD if n is out of range, 1 to 64");
        for (int n : new int[] {0, -1, 65, 66, Integer.MIN_VALUE, Integer.MAX_VALUE}) {
            Check.refused(Check.busy(), BAD, x -> x.enough(n));
            Check.refused(Check.path("cross 20;cross 20;cross 20;"), BAD, x -> x.enough(n));
        }
        for (int n = 1; n <= 64; n += 9) {
            int slots = n;
            Check.same(new Probes(), 1, x -> x.enough(slots));
        }
        Check.says("enough: the n slots, and no more");
        Probes x = Check.path("rate 9;cross ((1)7)9 9;");
        Check.due("64 slots have 9 in the last one", x.enough(64), 9);
        Check.due("63 slots", x.enough(63), 1);
        x = Check.path("rate 9;cross 1 5 7;");
        Check.due("1 slot", x.enough(1), 1);
        Check.due("2 slots", x.enough(2), 5);
        Check.due("3 slots", x.enough(3), 7);
    }

    private static void enoughCapacities() {
        Check.says("enough: the smallest capacity, 1 to 40, or NONE");
        for (int packets = 0; packets <= 40; packets++) {
            int some = packets;
            Probes x = Check.path("cross " + Math.min(20, packets) + ";cross " + Math.max(0, packets - 20) + ";");
            Check.same(x, Math.max(1, some), p -> p.enough(1));
        }
        Check.same(Check.path("cross 20;cross 20;cross 1;"), NONE, x -> x.enough(1));
        Check.same(Check.path("cross 20;cross 20;cross 20;cross 20;"), NONE, x -> x.enough(64));
        // One leaves a slot, two come: n slots need 2 + (n - 1).
        Probes x = Check.path("cross 2;");
        Check.due("39 slots", x.enough(39), 40);
        Check.due("40 slots", x.enough(40), NONE);
        Check.due("38 slots", x.enough(38), 39);
        Check.says("enough: the capacity of the path does not matter, the rate does");
        Check.due("room 40", Check.path("room 40;cross 5 0 0 0 0;").enough(64), 5);
        Check.due("room 1", Check.path("room 1;cross 5 0 0 0 0;").enough(64), 5);
        Check.due("rate 5", Check.path("rate 5;cross 5;").enough(64), 5);
        Check.due("rate 4", Check.path("rate 4;cross 5;").enough(36), 40);
        Check.due("rate 4, one slot more", Check.path("rate 4;cross 5;").enough(37), NONE);
    }

    private static void enoughQueue() {
        Check.says("enough: the queue remains as it is, also if it contains more packets than this capacity");
        Probes x = Check.path("room 40;cross 20 (0)9 (0)9 1;cross 20 (0)9 (0)9 0;");
        x.steps(1);
        // 39 wait, and the next packet comes in slot 19, when 21 do.
        Check.due("18 slots", x.enough(18), 1);
        Check.due("19 slots", x.enough(19), 22);
        x.steps(18);
        Check.due("the next slot", x.enough(1), 22);
        x = Check.path("room 40;cross 20 1 0;cross 20 0 0;");
        x.steps(1);
        Check.due("39 wait, one comes", x.enough(1), 40);
        x = Check.path("room 40;cross 20 2 0;cross 20 0 0;");
        x.steps(1);
        Check.due("39 wait, two come", x.enough(1), NONE);
        Check.says("enough: as ahead, the active ones go on, and no experiment begins");
        x = Check.path("plan 2;");
        for (int i = 0; i < 4; i++) x.asks(3);
        Check.due("none has begun", x.enough(9), 1);
        x.steps(1);
        // 4 wait. The pair and four triples send 5, of which one leaves; then the triples send 4.
        Check.due("one slot", x.enough(1), 9);
        Check.due("two slots", x.enough(2), 12);
        Check.due("more slots", x.enough(64), 12);
        Check.same(Check.busy(), Check.busy().enough(9), p -> p.enough(9));
    }

    private static void countRange() {
        Check.says("count: BAD if what is not 0 to 13");
        for (int what : new int[] {-1, 14, 15, Integer.MIN_VALUE, Integer.MAX_VALUE}) {
            Check.refused(Check.busy(), BAD, x -> x.count(what));
            Check.refused(new Probes(), BAD, x -> x.count(what));
        }
        for (int what = 0; what <= 13; what++) {
            int asked = what;
            Check.same(new Probes(), 0, x -> x.count(asked));
        }
    }

    private static void countEach() {
        Check.says("count: each of its numbers, at its greatest");
        Probes x = Check.passed(Check.path("room 1;cross 2;"), 2000);
        Check.due("slots", x.count(0), 2000);
        Check.due("lossy slots", x.count(3), 2000);
        Check.due("lost", x.count(2), 2000);
        Check.due("episodes", x.count(4), 1);
        x = Check.passed(Check.path("room 1;cross 2 0;"), 2000);
        Check.due("episodes", x.count(4), 1000);
        Check.due("lossy slots", x.count(3), 1000);
        x = Check.path("room 40;cross 20;cross 20;cross 20;cross 20;");
        x.steps(1);
        Check.due("in the queue", x.count(1), 39);
        Check.due("lost", x.count(2), 40);
        Check.due("sources", x.count(10), 4);
        x = Check.passed(Check.path("plan 2 3;"), 2000);
        Check.due("begun", x.count(5), 2000);
        Check.due("active", x.count(8), 1);
        Check.due("length of the plan", x.count(11), 2);
        x = Check.passed(Check.path("plan 2;budget 0 1;"), 2000);
        Check.due("rejected", x.count(6), 2000);
        Check.due("begun", x.count(5), 0);
        Check.says("count: a probe that is lost is one of those that were lost");
        x = Check.path("room 1;cross 1;");
        x.asks(2);
        x.steps(2);
        Check.due("lost", x.count(2), 2);
        Check.due("lossy slots", x.count(3), 2);
        Check.says("count: an aborted experiment has begun, and is not active");
        x = new Probes();
        x.asks(3);
        x.steps(1);
        x.breaks(0);
        Check.due("begun", x.count(5), 1);
        Check.due("aborted", x.count(7), 1);
        Check.due("active", x.count(8), 0);
        Check.says("count: the length of the plan, 0 without one; the length of a source's row does not matter");
        Check.due("no plan", Check.path("cross 1 2 3;").count(11), 0);
        Check.due("a plan of 1", Check.path("plan 0;").count(11), 1);
        Check.due("a plan of 7", Check.path("plan 2 (0 3)3;cross 1;").count(11), 7);
    }
}
