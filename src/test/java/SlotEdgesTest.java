/** The boundaries of SLOTS and of promises 6 to 9, each sentence on both sides. */
public final class SlotEdgesTest {
    private static final int BAD = EpisodeProbes.BAD, FULL = EpisodeProbes.FULL;

    public static void main(String[] args) {
        stepsRange();
        stepsFull();
        asksKinds();
        asksFull();
        requestsLastOneSlot();
        probesOfAnExperiment();
        orderOfBegin();
        orderWithinTheBudget();
        budgetOfOneExperiment();
        budgetOfPairs();
        budgetOfTriples();
        budgetStillToSend();
        budgetOfAborted();
        budgetOfRejected();
        budgetAhead();
        budgetAtTheEnds();
        arrivals();
        leaving();
        completion();
        drawsRange();
        drawsEachChance();
        drawsKind();
        drawsGoOn();
        breaksRange();
        breaksSent();
        breaksNotCounted();
        Check.end("SlotEdgesTest");
    }

    private static void counts(Probes x, String what, int begun, int rejected) {
        Check.due(what + ": begun", x.count(5), begun);
        Check.due(what + ": rejected", x.count(6), rejected);
    }

    /** Requests these experiments, and lets one slot pass. */
    private static void slot(Probes x, int... kinds) {
        for (int kind : kinds) x.asks(kind);
        x.steps(1);
    }

    private static void stepsRange() {
        Check.says("steps: BAD if n is out of range, 1 to 32");
        for (int n : new int[] {0, -1, 33, 64, 256 + 1, Integer.MIN_VALUE, Integer.MAX_VALUE}) {
            Check.refused(Check.busy(), BAD, x -> x.steps(n));
        }
        for (int n = 1; n <= 32; n++) {
            Probes x = Check.path("room 1;cross 2 0;");
            Check.due("steps(" + n + ")", x.steps(n), (n + 1) / 2);
            Check.due("slots after steps(" + n + ")", x.count(0), n);
        }
        Check.says("steps: returns how many of them are lossy");
        Probes x = Check.path("room 1;cross 2 2 0 0;");
        int[] due = {1, 1, 0, 0, 1};
        for (int slot = 0; slot < 5; slot++) Check.due("slot " + slot, x.steps(1), due[slot]);
        Check.due("none of 2", Check.path("room 1;cross 1;").steps(2), 0);
        Check.due("all of 32", Check.path("room 1;cross 2;").steps(32), 32);
    }

    private static void stepsFull() {
        Check.says("steps: FULL if there would be more than 2000 slots");
        String text = "room 1;cross 2 0 0;plan 0 0 3;";
        Check.due("1968 and 32", Check.passed(Check.path(text), 1968).steps(32), 11);
        Probes x = Check.passed(Check.path(text), 1969);
        Check.refused(x, FULL, p -> p.steps(32));
        Check.due("1969 and 31", x.steps(31), 10);
        Check.due("slots", x.count(0), 2000);
        x = Check.passed(Check.path(text), 1999);
        Check.refused(x, FULL, p -> p.steps(2));
        Check.refused(x, FULL, p -> p.steps(32));
        Check.due("slot 1999 has not passed", x.lossy(1999), EpisodeProbes.NONE);
        x.asks(2);
        Check.due("1999 and 1", x.steps(1), 1);
        Check.due("slot 1999 has passed: its second probe is lost", x.lossy(1999), 1);
        Check.due("the probes of slot 1999", x.slot(1999, 0), 2);
        for (int n : new int[] {1, 2, 16, 32}) Check.refused(x, FULL, p -> p.steps(n));
        Check.due("slots", x.count(0), 2000);
        Check.says("requests, breaks and draws are not refused after 2000 slots");
        Check.answers(x, 1, p -> p.asks(3));
        Check.refused(x, FULL, p -> p.steps(1));
        Check.answers(x, 1, p -> p.count(9));
        Check.answers(x, 0, p -> p.draws(16, 1));
        Check.answers(x, 16, p -> p.draws(0, 1));
        Check.answers(x, 1, p -> p.count(8));
        Check.answers(x, 1, p -> p.breaks(0));
    }

    private static void asksKinds() {
        Check.says("asks: BAD if kind is not 2 or 3");
        for (int kind : new int[] {1, 4, 0, -1, -2, 5, 6, 258, Integer.MIN_VALUE, Integer.MAX_VALUE}) {
            Check.refused(Check.busy(), BAD, x -> x.asks(kind));
        }
        for (int kind = 2; kind <= 3; kind++) {
            Probes x = new Probes();
            Check.due("asks(" + kind + ")", x.asks(kind), 1);
            x.steps(1);
            Check.due("its kind", x.under(0, 0), kind);
        }
    }

    private static void asksFull() {
        Check.says("asks: FULL if four are requested");
        Probes x = new Probes();
        int[] kinds = {3, 2, 2, 3};
        for (int i = 0; i < 4; i++) {
            Check.due("asks", x.asks(kinds[i]), i + 1);
            Check.due("count(9)", x.count(9), i + 1);
        }
        Check.refused(x, FULL, p -> p.asks(2));
        Check.refused(x, FULL, p -> p.asks(3));
        x.steps(1);
        counts(x, "the four alone", 4, 0);
        for (int i = 0; i < 4; i++) Check.due("kind " + i, x.under(i, 0), kinds[i]);
        for (int i = 1; i <= 4; i++) Check.due("asks in the next slot", x.asks(2), i);
        Check.refused(x, FULL, p -> p.asks(2));
        Check.says("asks: those that were rejected are not requested any more");
        x = Check.path("budget 0 1;");
        for (int i = 1; i <= 4; i++) Check.due("asks", x.asks(2), i);
        Check.refused(x, FULL, p -> p.asks(2));
        x.steps(1);
        counts(x, "four rejected", 0, 4);
        Check.due("asks", x.asks(2), 1);
    }

    private static void requestsLastOneSlot() {
        Check.says("all that were requested since the slot before begin, once");
        Probes x = new Probes();
        x.asks(2);
        x.steps(32);
        counts(x, "32 slots", 1, 0);
        Check.due("slot 0", x.slot(0, 0), 1);
        Check.due("slot 1", x.slot(1, 0), 1);
        Check.due("slot 2", x.slot(2, 0), 0);
        x.asks(3);
        Check.due("it does not begin before the next slot", x.count(8), 0);
        Check.due("steps that are refused", x.steps(33), BAD);
        Check.due("it is still requested", x.count(9), 1);
        x.steps(1);
        Check.due("it begins in slot 32", x.under(0, 1), 32);
        Check.due("none is requested", x.count(9), 0);
    }

    private static void probesOfAnExperiment() {
        Check.says("an experiment sends a probe in this slot and in the next one or two slots");
        for (int kind = 2; kind <= 3; kind++) {
            Probes x = new Probes();
            x.steps(4);
            x.asks(kind);
            x.steps(6);
            for (int slot = 0; slot < 10; slot++) {
                Check.due("probes of a " + kind + " in slot " + slot, x.slot(slot, 0), slot >= 4 && slot < 4 + kind ? 1 : 0);
            }
            Check.due("all of them", x.packets(4, 0), kind);
        }
        Check.says("the plan has 2 or 3 in this slot, or 0");
        Probes x = Check.path("plan 0;");
        x.steps(9);
        counts(x, "plan 0", 0, 0);
        x = Check.path("plan 2;");
        x.steps(9);
        counts(x, "plan 2", 9, 0);
        Check.due("pairs complete", x.forget(), 8);
        x = Check.path("plan 3;");
        x.steps(9);
        counts(x, "plan 3", 9, 0);
        Check.due("triples complete", x.forget(), 7);
    }

    private static void orderOfBegin() {
        Check.says("at first the one of the plan, then a random one, then all requested, in this order");
        for (int planned = 2; planned <= 3; planned++) {
            for (int drawn = 2; drawn <= 3; drawn++) {
                for (int asked = 2; asked <= 3; asked++) {
                    Probes x = Check.path("plan " + planned + ";");
                    x.draws(16, before(drawn == 3 ? 1 << 27 : 0));
                    x.asks(asked);
                    x.asks(5 - asked);
                    x.steps(1);
                    Check.due("the plan's", x.under(0, 0), planned);
                    Check.due("the random one", x.under(1, 0), drawn);
                    Check.due("the first requested one", x.under(2, 0), asked);
                    Check.due("the second requested one", x.under(3, 0), 5 - asked);
                    Check.due("no other one", x.under(4, 0), BAD);
                }
            }
        }
    }

    private static void orderWithinTheBudget() {
        Check.says("if not all can begin, the first ones do");
        for (int most = 0; most <= 6; most++) {
            Probes x = Check.path("plan 3;budget " + most + " 1;");
            x.draws(16, before(0));
            x.asks(3);
            x.asks(2);
            x.asks(2);
            x.asks(3);
            x.steps(1);
            int[] kinds = {3, 2, 3, 2, 2, 3};
            counts(x, "budget " + most, most, 6 - most);
            for (int k = 0; k < 6; k++) Check.due("kind " + k, x.under(k, 0), k < most ? kinds[k] : BAD);
        }
    }

    private static void one(String budget, int kind, boolean begins) {
        Probes x = Check.path("budget " + budget + ";");
        slot(x, kind);
        counts(x, kind + " with the budget " + budget, begins ? 1 : 0, begins ? 0 : 1);
        Check.due("its probe", x.slot(0, 0), begins ? 1 : 0);
    }

    private static void budgetOfOneExperiment() {
        Check.says("an experiment is rejected if with all its probes W consecutive slots would have more than N");
        one("0 1", 2, false);
        one("0 1", 3, false);
        one("1 1", 2, true);
        one("1 1", 3, true);
        one("1 2", 2, false);
        one("1 2", 3, false);
        one("2 2", 2, true);
        one("2 2", 3, true);
        one("2 3", 2, true);
        one("2 3", 3, false);
        one("3 3", 3, true);
        one("2 16", 2, true);
        one("2 16", 3, false);
        one("1 16", 2, false);
        one("3 16", 3, true);
        one("0 16", 2, false);
        one("20 16", 3, true);
    }

    private static void budgetOfPairs() {
        Check.says("the budget over W consecutive slots: the next pair, W slots later");
        for (int window = 2; window <= 16; window++) {
            Probes x = Check.path("budget 2 " + window + ";");
            slot(x, 2);
            if (window > 2) x.steps(window - 2);
            slot(x, 2);
            counts(x, "W = " + window + ", W - 1 slots later", 1, 1);
            slot(x, 2);
            counts(x, "W = " + window + ", W slots later", 2, 1);
            Check.due("it begins in this slot", x.under(0, 1), window);
        }
        Probes x = Check.path("budget 1 1;");
        slot(x, 2);
        slot(x, 2);
        counts(x, "W = 1, one slot later", 1, 1);
        slot(x, 2);
        counts(x, "W = 1, two slots later", 2, 1);
        Check.says("the budget over W consecutive slots: exactly N, and one more");
        for (int most = 2; most <= 5; most++) {
            x = Check.path("budget " + most + " 3;");
            slot(x, 2);
            slot(x);
            slot(x, 2);
            // Slots 0, 1, 2: 1 + 1 + 1; slots 1, 2, 3: 1 + 1 + 1.
            counts(x, "N = " + most, most >= 3 ? 2 : 1, most >= 3 ? 0 : 1);
            slot(x, 3);
            // Slots 1 to 3: 1 + 1 + 2; slots 2 to 4: 1 + 2 + 1; slots 3 to 5: 2 + 1 + 1.
            int begun = most == 2 ? 1 : most == 3 ? 2 : 3;
            counts(x, "then a triple, N = " + most, begun, 3 - begun);
        }
    }

    private static void budgetOfTriples() {
        Check.says("the budget over W consecutive slots: the next triple");
        for (int window = 3; window <= 16; window++) {
            Probes x = Check.path("budget 3 " + window + ";");
            slot(x, 3);
            x.steps(window - 2);
            slot(x, 3);
            counts(x, "W = " + window + ", W - 1 slots later", 1, 1);
            slot(x, 3);
            counts(x, "W = " + window + ", W slots later", 2, 1);
            Check.due("it begins in this slot", x.under(0, 1), window);
        }
        for (int window = 1; window <= 2; window++) {
            Probes x = Check.path("budget " + window + " " + window + ";");
            slot(x, 3);
            slot(x, 3);
            slot(x, 3);
            counts(x, "W = " + window + ", two slots later", 1, 2);
            slot(x, 3);
            counts(x, "W = " + window + ", three slots later", 2, 2);
        }
        Check.says("20 probes in 16 slots");
        Probes x = Check.path("budget 20 16;");
        for (int i = 0; i < 6; i++) slot(x, 3);
        slot(x, 3, 2);
        counts(x, "18 and 3, 18 and 2", 7, 1);
        slot(x, 2);
        counts(x, "20 and 2", 7, 2);
        x.steps(7);
        slot(x, 2);
        // 15 slots from slot 1 on have 19, slot 0 has 1.
        counts(x, "slot 15", 7, 3);
        slot(x, 2);
        // Slots 1 to 16 have 19 and 1, slots 2 to 17 have 17 and 2.
        counts(x, "slot 16", 8, 3);
        slot(x, 2, 2);
        // Slots 2 to 17 have 17 and 2, and 1 for each.
        counts(x, "slot 17", 9, 4);
        slot(x, 2, 2, 2);
        // Slots 3 to 18 have 14 and 2 and 2, and 1 for each.
        counts(x, "slot 18", 11, 5);
    }

    private static void budgetStillToSend() {
        Check.says("all that the active experiments are still to send count");
        Probes x = Check.path("budget 1 1;");
        slot(x, 3);
        slot(x, 2);
        counts(x, "slot 1 of a triple", 1, 1);
        slot(x, 2);
        counts(x, "slot 2 of a triple", 1, 2);
        slot(x, 2);
        counts(x, "behind the triple", 2, 2);
        x = Check.path("budget 2 1;");
        slot(x, 3);
        slot(x, 3);
        slot(x, 3);
        counts(x, "a third one in slot 2", 2, 1);
        slot(x, 3);
        counts(x, "a third one in slot 3", 3, 1);
    }

    private static void budgetOfAborted() {
        Check.says("all probes that have been sent count, also of aborted experiments");
        Probes x = Check.path("budget 2 3;");
        slot(x, 2);
        x.breaks(0);
        slot(x, 2);
        // Slots 0 to 2: 1 and 2.
        counts(x, "the one that was sent", 1, 1);
        slot(x, 2);
        // Slots 0 to 2: 1 and 1; slots 1 to 3: 2.
        counts(x, "the one that was not sent", 2, 1);
        x = Check.path("budget 2 3;");
        slot(x, 2);
        slot(x);
        slot(x, 2);
        counts(x, "both were sent", 1, 1);
        x = Check.path("budget 1 1;");
        slot(x, 3);
        x.breaks(0);
        slot(x, 2);
        counts(x, "in the slot behind an aborted triple", 2, 0);
        x = Check.path("budget 1 1;");
        slot(x, 3);
        slot(x);
        x.breaks(0);
        slot(x, 2);
        counts(x, "two of three were sent", 2, 0);
        x = Check.path("budget 3 16;");
        slot(x, 3);
        slot(x);
        x.breaks(0);
        slot(x, 2);
        // Two were sent in the slots 0 and 1.
        counts(x, "two sent, and a pair", 1, 1);
        x.steps(12);
        slot(x, 2);
        counts(x, "a pair in slot 15: slots 0 to 15 have 3, slots 1 to 16 have 3", 2, 1);
        Check.says("an experiment that was requested behind an aborted one begins with the place that it left");
        x = Check.path("budget 2 1;");
        slot(x, 3, 3);
        slot(x, 2);
        counts(x, "no place", 2, 1);
        x.breaks(1);
        slot(x, 2);
        counts(x, "one place", 3, 1);
        slot(x, 2, 2);
        counts(x, "the triple is complete", 4, 2);
    }

    private static void budgetOfRejected() {
        Check.says("an experiment that is rejected does not begin, and does not count");
        Probes x = Check.path("budget 2 2;");
        slot(x, 2, 2, 3, 2);
        counts(x, "slot 0", 1, 3);
        Check.due("one probe", x.slot(0, 0), 1);
        slot(x);
        slot(x, 2);
        counts(x, "slot 2", 2, 3);
        x = Check.path("budget 2 3;");
        slot(x, 3, 2);
        counts(x, "a pair behind a rejected triple", 1, 1);
        Check.due("the pair", x.under(0, 0), 2);
        x = Check.path("budget 2 3;plan 3 0 0;");
        slot(x, 2);
        counts(x, "a requested pair behind the plan's rejected triple", 1, 1);
        Check.due("aborted", x.count(7), 0);
    }

    private static void budgetAhead() {
        Check.says("the slots that come count: a window that ends with the last probe of a triple");
        Probes x = Check.path("budget 4 3;");
        slot(x, 3, 2);
        counts(x, "5 in slots 0 to 2, 4 in 0 to 1", 1, 1);
        x = Check.path("budget 5 3;");
        slot(x, 3, 2);
        counts(x, "5 in slots 0 to 2", 2, 0);
        x = Check.path("budget 4 3;");
        slot(x, 2, 3);
        counts(x, "the triple is second", 1, 1);
        x = Check.path("budget 3 2;");
        slot(x, 3);
        slot(x, 2);
        // Slots 0 and 1: 2 and 1; slots 1 and 2: 2 and 2.
        counts(x, "4 in slots 1 and 2", 1, 1);
        x = Check.path("budget 4 2;");
        slot(x, 3);
        slot(x, 2);
        counts(x, "4 in slots 1 and 2", 2, 0);
        Check.says("the slots that have passed count");
        x = Check.path("budget 3 4;");
        slot(x, 2);
        slot(x);
        slot(x, 2);
        counts(x, "4 in slots 0 to 3", 1, 1);
        slot(x, 2);
        counts(x, "3 in slots 0 to 3, 3 in slots 1 to 4", 2, 1);
    }

    private static void budgetAtTheEnds() {
        Check.says("slots before slot 0 have no probes");
        Probes x = Check.path("budget 2 16;");
        slot(x, 2);
        counts(x, "slot 0", 1, 0);
        Check.says("an experiment may begin in slot 1999");
        x = Check.passed(Check.path("budget 2 2;"), 1999);
        slot(x, 3, 3);
        counts(x, "slot 1999", 1, 1);
        Check.due("it is active", x.under(0, 1), 1999);
        Check.due("its probe", x.slot(1999, 0), 1);
        x = Check.passed(Check.path("budget 2 3;"), 1999);
        slot(x, 3, 2);
        counts(x, "with slots 2000 and 2001 a triple is too much", 1, 1);
        Check.due("the pair", x.under(0, 0), 2);
    }

    private static void arrivals() {
        Check.says("a packet is lost if the queue contains at least as many packets as the capacity");
        Probes x = Check.path("room 3;rate 9;cross 2;cross 2;");
        slot(x, 2);
        Check.due("lost of source 0", x.packets(0, 1), 0);
        Check.due("lost of source 1", x.packets(1, 1), 1);
        Check.due("the probe", x.packets(4, 1), 1);
        Check.says("first the sources in the order of their numbers");
        x = Check.path("room 3;rate 9;cross 1;cross 1;cross 1;cross 1;");
        slot(x, 2);
        for (int source = 0; source <= 3; source++) Check.due("lost of " + source, x.packets(source, 1), source == 3 ? 1 : 0);
        Check.says("then one probe of each active experiment, in the order in which they began");
        x = Check.path("room 3;rate 9;cross 0 2;");
        slot(x, 3);
        slot(x, 2, 2);
        Check.due("the older one enters", x.under(0, 2), 0);
        Check.due("the next one is lost", x.under(1, 2), 1);
        Check.due("the last one is lost", x.under(2, 2), 1);
        Check.due("lost", x.packets(4, 1), 2);
        Check.says("a slot is lossy if a packet is lost in it, a probe included");
        x = Check.path("room 2;rate 9;cross 1;");
        slot(x, 2);
        Check.due("one probe enters", x.lossy(0), 0);
        slot(x, 2);
        Check.due("the second one is lost", x.lossy(1), 1);
        Check.due("nothing else is", x.packets(0, 1), 0);
        Check.says("a probe that sees 1 in the queue is not lost");
        x = Check.path("mark 1;rate 9;cross 1;");
        slot(x, 2);
        Check.due("it sees 1", x.slot(0, 1), 1);
        Check.due("no loss", x.lossy(0), 0);
        Check.due("it left", x.packets(4, 2), 1);
    }

    private static void leaving() {
        Check.says("the packets leave from the front of the queue");
        Probes x = Check.path("cross 2 0 0 0;cross 1 0 0 0;");
        slot(x, 3);
        Check.due("source 0 after 1 slot", x.packets(0, 2), 1);
        slot(x);
        Check.due("source 0 after 2 slots", x.packets(0, 2), 2);
        Check.due("source 1 after 2 slots", x.packets(1, 2), 0);
        slot(x);
        Check.due("source 1 after 3 slots", x.packets(1, 2), 1);
        Check.due("probes after 3 slots", x.packets(4, 2), 0);
        slot(x);
        Check.due("probes after 4 slots", x.packets(4, 2), 1);
        Check.says("the delay is the number of slots from the one in which the probe arrived, 0 if it is the same");
        Check.due("the first probe has waited 3 slots", x.delay(1), 3);
        x = new Probes();
        slot(x, 2);
        Check.due("left", x.delay(0), 1);
        Check.due("delay 0", x.delay(1), 0);
        x = Check.path("cross 1 0 0;");
        slot(x, 2);
        Check.due("none has left", x.delay(0), 0);
        slot(x);
        Check.due("left", x.delay(0), 1);
        Check.due("delay 1", x.delay(1), 1);
    }

    private static void completion() {
        Check.says("an experiment whose last probe was sent in this slot is complete, and not active any more");
        for (int kind = 2; kind <= 3; kind++) {
            Probes x = Check.path("mark 0;");
            x.asks(kind);
            for (int sent = 1; sent <= kind + 1; sent++) {
                x.steps(1);
                Check.due("active after " + sent, x.count(8), sent < kind ? 1 : 0);
                Check.due("counted after " + sent, x.pattern(kind, (1 << kind) - 1), sent < kind ? 0 : 1);
            }
        }
        Check.says("its pattern: the bits that its probes saw, the first one being the highest");
        String[] patterns = {"00", "01", "10", "11", "000", "001", "010", "011", "100", "101", "110", "111"};
        for (String bits : patterns) {
            Probes x = Check.path("room 1;cross " + bits.replace("", " ") + ";");
            x.asks(bits.length());
            x.steps(bits.length());
            for (String other : patterns) {
                Check.due("pattern " + other + " after " + bits, x.pattern(other.length(), Integer.parseInt(other, 2)),
                        other.equals(bits) ? 1 : 0);
            }
        }
    }

    /** The X that becomes this one in the next slot. */
    private static int before(int next) {
        return (next - 1) * INVERSE;
    }

    /** 69069 times this one is 1, when it wraps. */
    private static final int INVERSE = inverse();

    private static int inverse() {
        int inverse = 1;
        for (int i = 0; i < 31; i++) inverse *= 2 - 69069 * inverse;
        return inverse;
    }

    private static void drawsRange() {
        Check.says("draws: BAD if chance is out of range, 0 to 16");
        for (int chance : new int[] {-1, 17, 32, Integer.MIN_VALUE, Integer.MAX_VALUE}) {
            Check.refused(Check.busy(), BAD, x -> x.draws(chance, 5));
        }
        Check.says("draws: returns the previous chance");
        Probes x = new Probes();
        int previous = 0;
        for (int chance : new int[] {0, 1, 15, 16, 8, 0}) {
            Check.due("draws(" + chance + ")", x.draws(chance, 3), previous);
            previous = chance;
        }
        Check.says("draws: x is any int");
        for (int from : new int[] {0, -1, 1, Integer.MIN_VALUE, Integer.MAX_VALUE}) {
            x = new Probes();
            Check.due("draws(16, " + from + ")", x.draws(16, from), 0);
            x.steps(1);
            Check.due("the kind after " + from, x.under(0, 0), (69069 * from + 1 & 1 << 27) != 0 ? 3 : 2);
        }
        Check.says("draws: a chance that is refused does not set X");
        x = new Probes();
        x.draws(16, before(0));
        x.draws(17, before(1 << 27));
        x.steps(1);
        Check.due("the kind", x.under(0, 0), 2);
    }

    private static void draws(int chance, int next, boolean isDrawn) {
        Probes x = new Probes();
        x.draws(chance, before(next));
        x.steps(1);
        Check.due("begun with X = " + next + " and the chance " + chance, x.count(5), isDrawn ? 1 : 0);
        Check.due("rejected", x.count(6), 0);
    }

    private static void drawsEachChance() {
        Check.due("69069 and its inverse", 69069 * INVERSE, 1);
        Check.says("an experiment is drawn if X >>> 28 is less than the chance");
        for (int high = 0; high <= 15; high++) {
            for (int low : new int[] {0, 1, (1 << 27) - 1, 1 << 27, (1 << 28) - 1}) {
                int next = high << 28 | low;
                draws(0, next, false);
                draws(high, next, false);
                draws(high + 1, next, true);
                draws(16, next, true);
            }
        }
        Check.says("no experiment is drawn with the chance 0, one in each slot with 16");
        Probes x = new Probes();
        x.draws(0, 5);
        x.steps(32);
        counts(x, "chance 0", 0, 0);
        x.draws(16, 5);
        x.steps(32);
        counts(x, "chance 16", 32, 0);
    }

    private static void drawsKind() {
        Check.says("a triple if bit 27 of X is 1, otherwise a pair");
        for (int next : new int[] {0, 1 << 26, 1 << 28, 1 << 31, ~(1 << 27), (1 << 27) - 1}) {
            Probes x = new Probes();
            x.draws(16, before(next));
            x.steps(1);
            Check.due("the kind with X = " + next, x.under(0, 0), 2);
            x = new Probes();
            x.draws(16, before(next | 1 << 27));
            x.steps(1);
            Check.due("the kind with X = " + (next | 1 << 27), x.under(0, 0), 3);
        }
    }

    private static void drawsGoOn() {
        Check.says("in each slot X becomes 69069 * X + 1, which wraps");
        for (int from : new int[] {0, Integer.MAX_VALUE, Integer.MIN_VALUE, -1, 31092}) {
            Probes x = new Probes();
            x.draws(16, from);
            int next = from;
            for (int slot = 0; slot < 40; slot++) {
                next = (int) (69069L * next + 1L);
                x.steps(1);
                Check.due("the kind in slot " + slot + " from " + from, x.under(x.count(8) - 1, 0), (next >> 27 & 1) == 1 ? 3 : 2);
            }
        }
        Check.says("also in a slot in which no experiment is drawn, or the one drawn is rejected");
        Probes x = new Probes();
        x.draws(1, before(before(before(0))));
        int begun = (before(before(0)) >>> 28 == 0 ? 1 : 0) + (before(0) >>> 28 == 0 ? 1 : 0);
        x.steps(3);
        Check.due("the third slot is drawn", x.count(5), begun + 1);
        Check.due("it began in slot 2", x.under(x.count(8) - 1, 1), 2);
        x = Check.path("budget 1 1;");
        x.draws(16, before(1 << 27));
        x.steps(3);
        counts(x, "those of the slots 1 and 2 are rejected", 1, 2);
        int fourth = (int) (69069L * (int) (69069L * (int) (69069L * (1 << 27) + 1) + 1) + 1);
        x.steps(1);
        counts(x, "slot 3", 2, 2);
        Check.due("its kind", x.under(0, 0), (fourth >> 27 & 1) == 1 ? 3 : 2);
    }

    private static void breaksRange() {
        Check.says("breaks: BAD if there is no such experiment");
        Check.refused(new Probes(), BAD, x -> x.breaks(0));
        for (int active = 1; active <= 3; active++) {
            int last = active - 1;
            Probes x = new Probes();
            for (int i = 0; i < active; i++) x.asks(3);
            Check.refused(x, BAD, p -> p.breaks(0));
            x.steps(1);
            Check.due("active", x.count(8), active);
            for (int k : new int[] {-1, active, active + 1, 20, Integer.MIN_VALUE, Integer.MAX_VALUE}) {
                Check.refused(x, BAD, p -> p.breaks(k));
            }
            Check.answers(x, 1, p -> p.breaks(last));
            Check.refused(x, BAD, p -> p.breaks(last));
            Check.due("active", x.count(8), active - 1);
            Check.due("aborted", x.count(7), 1);
        }
        Check.says("breaks: k is the index in the order in which they began");
        Probes x = new Probes();
        slot(x, 3);
        slot(x, 2, 3);
        Check.answers(x, 1, p -> p.breaks(1));
        Check.due("the first one stays", x.under(0, 1), 0);
        Check.due("the third one is second", x.under(1, 0), 3);
        Check.answers(x, 2, p -> p.breaks(0));
        Check.due("the third one is first", x.under(0, 0), 3);
        Check.answers(x, 1, p -> p.breaks(0));
        Check.refused(x, BAD, p -> p.breaks(0));
        Check.says("breaks: the others keep their kinds, their begins and the bits that they saw");
        for (int k = 0; k < 6; k++) breaksOneOfSix(k);
    }

    private static void breaksOneOfSix(int k) {
        // With room for 3 and the mark 2, the probes of slot 1 see 0, 0, 1, 1, 1, 1; before them two have seen 0 and 0.
        Probes x = Check.path("room 3;rate 9;mark 2;cross 0;");
        slot(x, 3, 3);
        slot(x, 2, 3, 3, 2);
        int[] kinds = {3, 3, 2, 3, 3, 2}, begins = {0, 0, 1, 1, 1, 1}, bits = {0, 0, 1, 1, 1, 1};
        Check.due("active", x.count(8), 6);
        Check.due("breaks(" + k + ")", x.breaks(k), k < 2 ? 2 : 1);
        for (int i = 0; i < 5; i++) {
            int former = i < k ? i : i + 1;
            Check.due("the kind", x.under(i, 0), kinds[former]);
            Check.due("the begin", x.under(i, 1), begins[former]);
            Check.due("the bits", x.under(i, 2), bits[former]);
        }
        Check.due("no other one", x.under(5, 0), BAD);
        x.steps(2);
        // What goes on in slot 2 sees 0, 0, 1, 1, 1, those that are left.
        Check.due("pairs", x.pattern(2, 0) + x.pattern(2, 1) + x.pattern(2, 2) + x.pattern(2, 3), kinds[k] == 2 ? 1 : 2);
        Check.due("triples of slots 0 to 2", x.pattern(3, 0), k < 2 ? 1 : 2);
    }

    private static void breaksSent() {
        Check.says("breaks: returns how many probes it has sent");
        Probes x = new Probes();
        slot(x, 2);
        Check.answers(x, 1, p -> p.breaks(0));
        x = new Probes();
        slot(x, 3);
        Check.answers(x.twin(), 1, p -> p.breaks(0));
        slot(x);
        Check.answers(x.twin(), 2, p -> p.breaks(0));
        slot(x);
        Check.refused(x, BAD, p -> p.breaks(0));
        Check.says("breaks: it sends no more probes; those that it sent stay");
        x = new Probes();
        slot(x, 3);
        x.breaks(0);
        x.steps(4);
        Check.due("slot 0", x.slot(0, 0), 1);
        for (int slot = 1; slot <= 4; slot++) Check.due("slot " + slot, x.slot(slot, 0), 0);
        Check.due("arrived", x.packets(4, 0), 1);
        x = Check.path("cross 3 0 0 0 0;");
        slot(x, 3);
        x.breaks(0);
        Check.due("the probe stays in the queue", x.packets(4, 3), 1);
        x.steps(3);
        Check.due("and leaves", x.delay(1), 3);
    }

    private static void breaksNotCounted() {
        Check.says("breaks: its pattern is not counted");
        for (int kind = 2; kind <= 3; kind++) {
            for (int sent = 1; sent < kind; sent++) {
                Probes x = new Probes();
                x.asks(kind);
                x.steps(sent);
                Check.due("breaks", x.breaks(0), sent);
                x.steps(4);
                Check.due("counted", x.forget(), 0);
                Check.due("begun", x.count(5), 1);
                Check.due("aborted", x.count(7), 1);
                Check.due("rejected", x.count(6), 0);
            }
        }
        Check.says("breaks: the requests stay");
        Probes x = new Probes();
        slot(x, 3);
        x.asks(2);
        x.breaks(0);
        Check.due("requested", x.count(9), 1);
        x.steps(1);
        Check.due("the pair has begun", x.under(0, 0), 2);
    }
}
