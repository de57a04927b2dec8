/** The boundaries of THE PATH and of promises 1, 4 and 5, each sentence on both sides. */
public final class PathEdgesTest {
    public static void main(String[] args) {
        newObject();
        capacity();
        rate();
        mark();
        budget();
        rowsOfFourHundred();
        groupsOfFourHundred();
        timesWithinFourHundred();
        lengthsOfSeveralRows();
        indexModuloLength();
        rowArguments();
        notGivenIsAsAtFirst();
        beginsAnew();
        chainStays();
        objectsAreApart();
        Check.end("PathEdgesTest");
    }

    private static void wrong(String marked) {
        Check.due("path() of '" + marked + "'", Check.read(marked.replace("^", "")), -10 - marked.indexOf('^'));
    }

    private static void right(String text, int items) {
        Check.due("path() of '" + text + "'", Check.read(text), items);
    }

    /** Terms of this length in all, with groups of at most three levels, made of one number. */
    private static String terms(int length, int number) {
        StringBuilder terms = new StringBuilder();
        int left = length;
        for (int times = Math.min(9, left / 81); times > 0; times = Math.min(9, left / 81)) {
            terms.append("(((").append(number).append(")9)9)").append(times);
            left -= 81 * times;
        }
        if (left >= 9) terms.append("((").append(number).append(")9)").append(left / 9);
        if (left % 9 > 0) terms.append('(').append(number).append(')').append(left % 9);
        return terms.toString();
    }

    private static void newObject() {
        Check.says("EpisodeProbes: initial values, before slot 0, a chain without states, an empty text");
        Probes x = new Probes();
        for (int what = 0; what <= 13; what++) Check.answers(x, 0, countOf(what));
        for (int test = 0; test < 4; test++) Check.due("tolerance", x.trust(test, 0), 9999);
        Check.due("chance", x.draws(1, 1), 0);
        x = new Probes();
        for (int row = 0; row <= 4; row++) Check.due("row " + row, x.row(row, 0), EpisodeProbes.BAD);
        for (int row = 0; row <= 3; row++) Check.due("packets of " + row, x.packets(row, 0), EpisodeProbes.BAD);
        for (int what = 0; what <= 3; what++) Check.due("probes", x.packets(4, what), 0);
        for (int what = 0; what <= 2; what++) Check.due("delay", x.delay(what), 0);
        for (int bits = 0; bits < 4; bits++) Check.due("pair", x.pattern(2, bits), 0);
        for (int bits = 0; bits < 8; bits++) Check.due("triple", x.pattern(3, bits), 0);
        for (int test = 0; test < 4; test++) Check.due("test", x.agrees(test), 1);
        Check.due("forget", x.forget(), 0);
        Check.due("empty", x.empty(), 0);
        Check.due("clear", x.clear(), 0);
        Check.due("path", x.path(), 0);
        Check.due("episode", x.episode(0, 0), EpisodeProbes.BAD);
        Check.due("under", x.under(0, 0), EpisodeProbes.BAD);
        Check.due("breaks", x.breaks(0), EpisodeProbes.BAD);
        Check.due("lossy", x.lossy(0), EpisodeProbes.NONE);
        Check.due("slot", x.slot(0, 0), EpisodeProbes.NONE);
        Check.due("stab", x.stab(1, -1), 0);
        Check.due("truth", x.truth(0, 0), EpisodeProbes.FEW);
    }

    private static Check.Call countOf(int what) {
        return x -> x.count(what);
    }

    /** Lost packets of one slot, in which so many come. */
    private static int lost(String text, int packets) {
        return Check.path(text).ahead(1, Math.min(packets, 20));
    }

    private static void capacity() {
        Check.says("the capacity is 10 at first");
        Check.due("10 packets", lost("", 10), 0);
        Check.due("11 packets", lost("", 11), 1);
        Check.says("the capacity is 1 to 40");
        for (int room = 1; room <= 19; room++) {
            Check.due(room + " packets in " + room, lost("room " + room + ";", room), 0);
            Check.due("one more than " + room, lost("room " + room + ";", room + 1), 1);
        }
        Probes x = Check.path("room 40;cross 20;cross 20;");
        Check.due("40 packets", x.steps(1), 0);
        Check.due("the queue, after the first one has left", x.count(1), 39);
        x = Check.path("room 40;cross 20;cross 20;cross 1;");
        Check.due("41 packets", x.steps(1), 1);
        Check.due("the last one is lost", x.packets(2, 1), 1);
        x = Check.path("room 39;cross 20;cross 20;");
        Check.due("40 packets with the capacity 39", x.steps(1), 1);
        Check.due("the last one is lost", x.packets(1, 1), 1);
        x = Check.path("room 1;cross 1;");
        Check.due("one packet a slot with the capacity 1", x.steps(32), 0);
        x = Check.path("room 1;cross 2;");
        Check.due("two packets a slot with the capacity 1", x.steps(32), 32);
    }

    private static void rate() {
        Check.says("the rate is 1 at first");
        Probes x = Check.path("cross 2 0 0;");
        x.steps(1);
        Check.due("one of two has left", x.packets(0, 2), 1);
        Check.says("the rate is 1 to 9: as many packets leave, or all if there are fewer");
        for (int rate = 1; rate <= 9; rate++) {
            for (int packets = rate - 1; packets <= rate + 1; packets++) {
                x = Check.path("rate " + rate + ";cross " + packets + " 0;");
                x.steps(1);
                Check.due("left of " + packets + " with the rate " + rate, x.packets(0, 2), Math.min(rate, packets));
                Check.due("still in the queue", x.count(1), Math.max(0, packets - rate));
            }
        }
    }

    /** The bit that a probe sees behind so many packets. */
    private static int bit(String text, int packets) {
        Probes x = Check.path(text + "cross " + Math.min(packets, 20) + " 0;cross " + Math.max(0, packets - 20) + " 0;");
        x.asks(2);
        x.steps(1);
        return x.under(0, 2);
    }

    private static void mark() {
        Check.says("the mark is 40 at first");
        Check.due("a queue of 39", bit("room 40;", 39), 0);
        Check.due("a queue of 40, which is full", bit("room 40;", 40), 1);
        Check.due("a queue of 9 in 10", bit("", 9), 0);
        Check.due("a full queue of 10", bit("", 10), 1);
        Check.says("the mark is 0 to 40: a probe sees 1 if the queue contains at least as many packets");
        for (int mark = 0; mark <= 39; mark++) {
            String text = "room 40;mark " + mark + ";";
            if (mark > 0) Check.due("a queue of " + (mark - 1) + ", the mark " + mark, bit(text, mark - 1), 0);
            Check.due("a queue of " + mark + ", the mark " + mark, bit(text, mark), 1);
            Check.due("a queue of one more than the mark " + mark, bit(text, Math.min(mark + 1, 39)), 1);
        }
        Check.due("a queue of 39, the mark 40", bit("room 40;mark 40;", 39), 0);
        Check.says("a probe sees 1 if it is lost, though the queue is below the mark");
        Check.due("a full queue of 5, the mark 6", bit("room 5;mark 6;", 5), 1);
        Check.due("a queue of 4 in 5, the mark 6", bit("room 5;mark 6;", 4), 0);
        Check.due("a full queue of 5, the mark 5", bit("room 5;mark 5;", 5), 1);
        Check.due("a queue of 4 in 5, the mark 5", bit("room 5;mark 5;", 4), 0);
    }

    private static void budget() {
        Check.says("the budget is 20 probes in 1 slot at first");
        Probes x = Check.path("plan 3;");
        x.draws(16, 1);
        for (int slot = 0; slot < 5; slot++) {
            for (int i = 0; i < 4; i++) x.asks(3);
            x.steps(1);
        }
        Check.due("all begin", x.count(5), 30);
        Check.due("none is rejected", x.count(6), 0);
        Check.says("the budget is of 0 to 20 probes");
        for (int most = 0; most <= 4; most++) {
            x = Check.path("budget " + most + " 1;");
            for (int i = 0; i < 4; i++) x.asks(2);
            x.steps(1);
            Check.due("begun with the budget " + most + " 1", x.count(5), most);
            Check.due("rejected", x.count(6), 4 - most);
        }
    }

    private static void rowsOfFourHundred() {
        Check.says("the length of a row is at most 400: by a number");
        right("cross " + terms(399, 1) + ";", 1);
        right("cross " + terms(399, 1) + " 2;", 1);
        right("cross 2 " + terms(399, 1) + ";", 1);
        wrong("cross " + terms(400, 1) + " ^2;");
        wrong("cross " + terms(399, 1) + " 2 ^2;");
        wrong("cross " + terms(399, 1) + " 2 ^2 2;");
        wrong("cross " + terms(400, 1) + " ^2");
        Check.says("the length of a row is at most 400: by the number of times of a group");
        right("cross " + terms(399, 1) + "(2)1;", 1);
        wrong("cross " + terms(399, 1) + "(2)^2;");
        wrong("cross " + terms(400, 1) + "(2)^1;");
        wrong("cross " + terms(399, 1) + "(2 2)^1;");
        right("cross " + terms(398, 1) + "(2)2;", 1);
        right("cross " + terms(398, 1) + "(2 2)1;", 1);
        wrong("cross " + terms(398, 1) + "(2)^3;");
        wrong("cross " + terms(398, 1) + "(2 2)^2;");
        right("cross " + terms(391, 1) + "(2)9;", 1);
        wrong("cross " + terms(392, 1) + "(2)^9;");
        right("cross (2)9" + terms(391, 1) + ";", 1);
        wrong("cross (2)9" + terms(391, 1) + " ^2;");
        Check.says("a number of times is an error at its place also if it is out of range and too long");
        wrong("cross " + terms(400, 1) + "(2)^0;");
        wrong("cross " + terms(400, 1) + "(2)^10;");
        wrong("cross " + terms(400, 1) + " ^21;");
        Check.says("it is no error that a group begins in a row of the length 400");
        wrong("cross " + terms(400, 1) + "(^");
        wrong("cross " + terms(400, 1) + "(2^");
        wrong("cross " + terms(400, 1) + "(2)^");
        wrong("cross " + terms(400, 1) + "(^);");
        wrong("cross " + terms(400, 1) + "((2)9 3 ^21;");
        wrong("cross " + terms(400, 1) + "((((^(");
        Check.says("the same limit for the plan");
        right("plan " + terms(400, 2) + ";", 1);
        Check.due("count(11)", Check.path("plan " + terms(400, 2) + ";").count(11), 400);
        wrong("plan " + terms(400, 2) + " ^2;");
        wrong("plan " + terms(400, 2) + "(2)^1;");
        wrong("plan " + terms(399, 2) + "(2)^2;");
    }

    private static void groupsOfFourHundred() {
        Check.says("the length of the terms within one group, taken once, is at most 400");
        right("cross (" + terms(400, 1) + ")1;", 1);
        wrong("cross (" + terms(400, 1) + " ^2)1;");
        wrong("cross (" + terms(400, 1) + "(2)^1)1;");
        right("cross (" + terms(399, 1) + " 2)1;", 1);
        right("cross (" + terms(399, 1) + "(2)1)1;", 1);
        wrong("cross (" + terms(399, 1) + "(2)^2)1;");
        wrong("cross (" + terms(399, 1) + "(2 2)^1)1;");
        wrong("cross (" + terms(400, 1) + ")^2;");
        wrong("cross (" + terms(201, 1) + ")^2;");
        right("cross (" + terms(200, 1) + ")2;", 1);
        wrong("plan (" + terms(400, 2) + " ^2)1;");
        wrong("plan (" + terms(400, 2) + "(2)^1)1;");
        Check.says("those of the group that directly contains this term, not of the row around it");
        wrong("cross " + terms(300, 1) + "(" + terms(101, 2) + ")^1;");
        right("cross " + terms(300, 1) + "(" + terms(100, 2) + ")1;", 1);
        wrong("cross " + terms(400, 1) + "(" + terms(400, 2) + ")^1;");
        wrong("cross " + terms(400, 1) + "(" + terms(400, 2) + " ^3)1;");
        wrong("cross " + terms(400, 1) + "(" + terms(400, 2) + "(3)^1)1;");
        wrong("cross 3(" + terms(400, 2) + ")^1;");
        wrong("cross 3(" + terms(400, 2) + "^");
        right("cross (" + terms(399, 2) + ")1 3;", 1);
        wrong("cross (" + terms(399, 2) + ")1 3 ^3;");
        Check.says("those of the group that directly contains this group, not of the group around it");
        wrong("cross (3 (" + times(200, 2) + ")^2)1;");
        right("cross ((" + times(200, 2) + ")2)1;", 1);
        wrong("cross ((" + times(200, 2) + ")2)^2;");
        wrong("cross ((" + times(200, 2) + ")2 ^3)1;");
        right("cross (3 (" + times(199, 2) + ")2)1;", 1);
        right("cross (3 (" + times(199, 2) + ")2 3)1;", 1);
        wrong("cross (3 (" + times(199, 2) + ")2 3 ^3)1;");
    }

    /** Terms of this length with groups of at most two levels: 45 a group of groups, then 9, then 1. */
    private static String times(int length, int number) {
        StringBuilder terms = new StringBuilder();
        int left = length;
        for (; left >= 81; left -= 81) terms.append("((").append(number).append(")9)9");
        for (; left >= 9; left -= 9) terms.append('(').append(number).append(")9");
        if (left > 0) terms.append('(').append(number).append(')').append(left);
        return terms.toString();
    }

    private static void timesWithinFourHundred() {
        Check.says("the number of times with which the terms would become longer than 400");
        for (int times = 1; times <= 9; times++) {
            int most = 400 / times;
            right("cross (" + terms(most, 1) + ")" + times + ";", 1);
            if (most < 400) wrong("cross (" + terms(most + 1, 1) + ")^" + times + ";");
            int rest = 400 - most * times;
            if (rest > 0) right("cross (" + terms(most, 1) + ")" + times + "(2)" + rest + ";", 1);
            if (rest < 9) wrong("cross (" + terms(most, 1) + ")" + times + "(2)^" + (rest + 1) + ";");
        }
        for (int before = 0; before <= 400; before += 40) {
            int most = Math.min(9, (400 - before) / 40);
            String start = "cross " + (before > 0 ? terms(before, 1) : "") + "(" + terms(40, 2) + ")";
            if (most > 0) right(start + most + ";", 1);
            if (most < 9) wrong(start + "^" + (most + 1) + ";");
        }
    }

    private static void lengthsOfSeveralRows() {
        Check.says("each row has a length of at most 400 of its own");
        Probes x = Check.path("cross " + terms(400, 1) + ";cross " + terms(400, 2) + ";cross " + terms(400, 3) + ";cross " + terms(400, 4)
                + ";plan " + terms(400, 3) + ";");
        Check.due("count(10)", x.count(10), 4);
        Check.due("count(11)", x.count(11), 400);
        for (int slot : new int[] {0, 1, 323, 324, 399, 400, 9999}) {
            for (int row = 0; row <= 4; row++) Check.due("row(" + row + ", " + slot + ")", x.row(row, slot), row == 4 ? 3 : row + 1);
        }
    }

    private static void indexModuloLength() {
        Check.says("in slot s a row of the length L has the number with the index s modulo L");
        Probes x = Check.path("cross 7;cross 1 2;cross 1 2 3 4 5 6 7 8 9 10;cross 20 " + terms(398, 1) + " 19;plan 2 0 3;");
        for (int slot : new int[] {0, 1, 2, 399, 9998, 9999}) {
            Check.due("length 1", x.row(0, slot), 7);
            Check.due("length 2", x.row(1, slot), slot % 2 + 1);
            Check.due("length 10", x.row(2, slot), slot % 10 + 1);
            Check.due("length 3", x.row(4, slot), slot % 3 == 0 ? 2 : slot % 3 == 1 ? 0 : 3);
        }
        for (int slot : new int[] {0, 400, 800, 9600}) {
            Check.due("length 400, the first one", x.row(3, slot), 20);
            Check.due("the next one", x.row(3, slot + 1), 1);
            Check.due("the last but one", x.row(3, slot + 398), 1);
            Check.due("the last one", x.row(3, slot + 399), 19);
        }
        x = Check.path("room 40;cross 20 " + terms(398, 0) + " 19;");
        Check.passed(x, 399);
        Check.due("packets in the slots 0 to 398", x.packets(0, 0), 20);
        x.steps(1);
        Check.due("packets in the slots 0 to 399", x.packets(0, 0), 39);
        x.steps(1);
        Check.due("packets in the slots 0 to 400", x.packets(0, 0), 59);
    }

    private static void rowArguments() {
        Check.says("row: BAD if slot is out of range, 0 to 9999");
        Probes x = Check.path("cross 4 5;plan 3 0 2;");
        Check.answers(x, 4, p -> p.row(0, 0));
        Check.answers(x, 5, p -> p.row(0, 9999));
        Check.refused(x, EpisodeProbes.BAD, p -> p.row(0, -1));
        Check.refused(x, EpisodeProbes.BAD, p -> p.row(0, 10000));
        Check.refused(x, EpisodeProbes.BAD, p -> p.row(4, -1));
        Check.refused(x, EpisodeProbes.BAD, p -> p.row(4, 10000));
        Check.refused(x, EpisodeProbes.BAD, p -> p.row(0, Integer.MAX_VALUE));
        Check.refused(x, EpisodeProbes.BAD, p -> p.row(0, Integer.MIN_VALUE));
        Check.says("row: also slots that have not passed, and beyond 2000");
        Check.answers(x, 4, p -> p.row(0, 2000));
        Check.answers(x, 5, p -> p.row(0, 2001));
        Check.answers(x, 2, p -> p.row(4, 2000));
        Check.says("row: BAD if there is no such source or no plan");
        Check.refused(x, EpisodeProbes.BAD, p -> p.row(-1, 0));
        Check.refused(x, EpisodeProbes.BAD, p -> p.row(1, 0));
        Check.refused(x, EpisodeProbes.BAD, p -> p.row(5, 0));
        Check.refused(x, EpisodeProbes.BAD, p -> p.row(Integer.MIN_VALUE, 0));
        Check.refused(x, EpisodeProbes.BAD, p -> p.row(Integer.MAX_VALUE, 0));
        StringBuilder text = new StringBuilder();
        for (int sources = 0; sources <= 4; sources++) {
            for (int withPlan = 0; withPlan <= 1; withPlan++) {
                x = Check.path(text + (withPlan == 1 ? "plan 3;" : ""));
                for (int row = 0; row <= 3; row++) Check.due("row " + row, x.row(row, 7), row < sources ? row : EpisodeProbes.BAD);
                Check.due("plan", x.row(4, 7), withPlan == 1 ? 3 : EpisodeProbes.BAD);
            }
            text.append("cross ").append(sources).append(';');
        }
    }

    private static void notGivenIsAsAtFirst() {
        Check.says("path: what the text does not give is as at first");
        String[] items = {"room 3;", "rate 2;", "mark 1;", "budget 2 3;", "plan 2 0 3;", "cross 4 1;"};
        for (int left = -1; left < items.length; left++) {
            for (int given = -1; given < items.length; given++) {
                StringBuilder text = new StringBuilder();
                for (int i = 0; i < items.length; i++) if (i != left) text.append(items[i]);
                Probes x = Check.path(text.toString());
                Check.typed(x, text.toString()).path();
                x.steps(2);
                String next = given < 0 ? "" : items[given];
                Check.typed(x, next).path();
                Check.holds("after '" + text + "' and '" + next + "' as after the second alone", shown(x).equals(shown(Check.path(next))));
            }
        }
    }

    /** What the capacity, the rate, the mark and the budget bring about. */
    private static String shown(Probes x) {
        StringBuilder all = new StringBuilder(Picture.of(x));
        Probes y = x.twin();
        for (int slot = 0; slot < 4; slot++) {
            for (int i = 0; i < 4; i++) y.asks(3 - i % 2);
            y.steps(1);
            all.append(y.count(5)).append(' ').append(y.slot(slot, 1)).append(' ').append(y.slot(slot, 2)).append(' ');
        }
        for (int n = 1; n <= 4; n++) all.append(y.ahead(n, 11)).append(' ');
        return all.toString();
    }

    private static void beginsAnew() {
        Check.says("path: everything begins anew: slots, queue, records, counted patterns, chance, tolerances, requests");
        Probes x = Check.busy();
        x.steps(21);
        x.breaks(0);
        x.asks(2);
        for (int what = 0; what <= 9; what++) Check.holds("count " + what + " is not 0 before", x.count(what) > 0);
        x.clear();
        Check.due("path()", Check.typed(x, "cross 3;").path(), 1);
        for (int what = 0; what <= 9; what++) Check.due("count " + what, x.count(what), 0);
        Check.due("counted patterns", x.twin().forget(), 0);
        Check.due("chance", x.twin().draws(0, 0), 0);
        for (int test = 0; test < 4; test++) Check.due("tolerance", x.twin().trust(test, 0), 9999);
        for (int what = 0; what <= 3; what++) Check.due("packets", x.packets(0, what), 0);
        for (int what = 0; what <= 3; what++) Check.due("probes", x.packets(4, what), 0);
        for (int what = 0; what <= 2; what++) Check.due("delay", x.delay(what), 0);
        Check.due("lossy", x.lossy(0), EpisodeProbes.NONE);
        Check.due("episode", x.episode(0, 0), EpisodeProbes.BAD);
        Check.due("under", x.under(0, 0), EpisodeProbes.BAD);
        x.empty();
        Check.holds("as a new object", shown(x).equals(shown(Check.path("cross 3;"))));
        Check.says("path: a path can be read after 2000 slots");
        x = Check.passed(Check.path("room 1;cross 2;"), 2000);
        Check.due("full", x.steps(1), EpisodeProbes.FULL);
        Check.due("path()", Check.typed(x, "cross 3;").path(), 1);
        Check.due("steps(32)", x.steps(32), 28);
        Check.due("the first lossy slot: 3 come, 1 leaves, and 10 have room", x.episode(0, 0), 4);
        Check.says("path: if the text has an error nothing changes, and the text stays");
        for (String text : new String[] {"x", "room", "cross 1;cross 2;cross 3;plan 2;room", "room 41;"}) {
            x = Check.busy();
            x.clear();
            Check.typed(x, text);
            String before = Picture.of(x);
            Check.holds("path() is an error", x.path() <= -10);
            Check.holds("nothing changes", Picture.of(x).equals(before));
            Check.holds("path() is an error again", x.path() <= -10);
            Check.due("the text stays", x.clear(), text.length());
        }
        Check.says("path: what an error has spoilt is as at first in the next text");
        String spoilt = "room 3;rate 2;mark 1;budget 2 3;cross 4 1;plan 2 0 3;x";
        for (String next : new String[] {"", "room 5;", "rate 3;", "mark 2;", "budget 3 1;", "plan 3;", "cross 2;", "cross 2 1;cross 3;"}) {
            x = new Probes();
            for (int i = 0; i < 2; i++) {
                Check.due("path()", Check.typed(x, spoilt).path(), -10 - 53);
                x.clear();
            }
            Check.typed(x, next).path();
            Check.holds("after two errors and '" + next + "' as after the last one alone", shown(x).equals(shown(Check.path(next))));
        }
        Check.says("path: the position 0 is -10");
        Check.due("path()", Check.read(";"), -10);
        Check.due("path()", Check.read(" ;"), -11);
    }

    private static void chainStays() {
        Check.says("path: the chain stays");
        Probes x = Check.busy();
        x.clear();
        x.path();
        Check.due("states", x.count(12), 2);
        Check.due("share", x.share(0, 1), 3);
        for (int i = 0; i < 4; i++) Check.due("weight", x.weight(i / 2, i % 2, 1), i < 2 ? 6 : i == 2 ? 3 : 9);
        Check.due("state", x.state(1), 2);
        x.type('x');
        x.path();
        Check.due("states", x.count(12), 3);
        Check.due("empty", x.empty(), 3);
    }

    private static void objectsAreApart() {
        Check.says("EpisodeProbes: each object has a path, a text and a chain of its own");
        Probes busy = Check.busy(), fresh = new Probes();
        String before = Picture.of(fresh);
        busy.steps(3);
        Check.busy().steps(9);
        Check.holds("a new object is as before", Picture.of(fresh).equals(before));
        Probes x = new Probes(), y = new Probes();
        Check.typed(x, "cross 1;");
        Check.typed(y, "cross 2; cross 3;");
        x.state(1);
        Check.due("path of the one", x.path(), 1);
        Check.due("path of the other", y.path(), 2);
        y.steps(2);
        Check.due("slots of the one", x.count(0), 0);
        Check.due("states of the other", y.count(12), 0);
        Check.due("row of the one", x.row(0, 0), 1);
        Check.due("row of the other", y.row(0, 0), 2);
    }
}
