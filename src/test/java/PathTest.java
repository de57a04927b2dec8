/** Promises 1 to 5: a new object, type, clear, path, row. */
public final class PathTest {
    public static void main(String[] args) {
        newObject();
        type();
        clear();
        pathItems();
        pathRanges();
        pathErrors();
        pathLengths();
        pathBeginsAnew();
        pathAfterPath();
        row();
        Check.end("PathTest");
    }

    private static void newObject() {
        Probes x = new Probes();
        for (int what = 0; what <= 13; what++) Check.due("new: count " + what, x.count(what), 0);
        Check.due("new: chance", x.draws(0, 0), 0);
        for (int test = 0; test < 4; test++) Check.due("new: tolerance", x.trust(test, 9999), 9999);
        Check.due("new: plan", x.row(4, 0), EpisodeProbes.BAD);
        Check.due("new: source", x.row(0, 0), EpisodeProbes.BAD);
        Check.due("new: lossy", x.lossy(0), EpisodeProbes.NONE);
        // 10 of 13 packets find room, one leaves: the capacity is 10, the rate 1.
        Check.due("new: capacity and rate", x.ahead(2, 13), 3 + 12);
        for (int i = 0; i < 4; i++) x.asks(2);
        x.steps(1);
        Check.due("new: 4 pairs are within the budget of 20 in 1 slot", x.count(5), 4);
        Check.due("new: the mark is above a full queue of 10", x.slot(0, 1), 0);
        x = Check.path("room 40; cross 20; cross 19;");
        x.asks(2);
        x.steps(1);
        Check.due("new: a queue of 39 is below the mark", x.slot(0, 1), 0);
        x = Check.path("plan 3;");
        x.draws(16, 5);
        for (int slot = 0; slot < 12; slot++) {
            for (int i = 0; i < 4; i++) x.asks(3);
            x.steps(1);
        }
        Check.due("new: as many as can begin are within the budget", x.count(5) * 100 + x.count(6), 7200);
    }

    private static void type() {
        Probes x = new Probes();
        for (int i = 0; i < 200; i++) {
            if (i % 3 == 0) Check.due("type below", x.type(-1), EpisodeProbes.BAD);
            if (i % 3 == 0) Check.due("type above", x.type(256), EpisodeProbes.BAD);
            Check.due("type", x.type(i == 0 ? 0 : i == 1 ? 255 : ' '), i + 1);
        }
        Check.due("type into a full text", x.type(32), EpisodeProbes.FULL);
        Check.due("BAD is before FULL", x.type(300), EpisodeProbes.BAD);
        Check.due("the full text stays", x.count(13), 200);
    }

    private static void clear() {
        Probes x = new Probes();
        Check.due("clear of no text", x.clear(), 0);
        Check.typed(x, "room");
        Check.due("clear", x.clear(), 4);
        Check.due("the text is empty", x.count(13), 0);
        Check.due("type begins anew", x.type(' '), 1);
        Check.due("the former text is gone", x.path(), 0);
    }

    private static void pathItems() {
        Check.due("no item", Check.read(""), 0);
        Check.due("spaces alone", Check.read("   "), 0);
        Check.due("all items", Check.read("room 5;rate 2;mark 3;budget 4 5;plan 0 2 3;cross 1;cross 2;cross 3;cross 4;"), 9);
        Check.due("spaces anywhere", Check.read("  room   5  ;  cross ( 1 2 ) 3 ; "), 2);
        Check.due("no space that is not needed", Check.read("room5;budget 4 5;plan(0)3;cross(1(2)3)2 4(5)1;"), 4);
        Probes x = Check.path("cross 2 (0 1) 3; cross 7; plan 0 (2 3) 2;");
        Check.due("the text is empty then", x.count(13), 0);
        Check.due("sources", x.count(10), 2);
        Check.due("length of the plan", x.count(11), 5);
        Check.holds("first row", Check.row(x, 0, 9).equals("2 0 1 0 1 0 1 2 0"));
        Check.holds("second row", Check.row(x, 1, 3).equals("7 7 7"));
        Check.holds("plan", Check.row(x, 4, 7).equals("0 2 3 2 3 0 2"));
        x = Check.path("room 3;");
        Check.due("room", x.ahead(1, 9), 6);
        x = Check.path("rate 9;");
        Check.due("rate", x.ahead(2, 15), 5 + 6);
        x = Check.path("mark 2;");
        for (int i = 0; i < 4; i++) x.asks(2);
        x.steps(1);
        Check.due("mark", x.slot(0, 1), 2);
        x = Check.path("budget 3 2;");
        for (int i = 0; i < 4; i++) x.asks(2);
        x.steps(1);
        Check.due("budget: 1 pair in 2 slots leaves room for 1 probe only", x.count(5), 1);
    }

    private static void pathRanges() {
        range("room ", ";", 1, 40);
        range("rate ", ";", 1, 9);
        range("mark ", ";", 0, 40);
        range("budget ", " 1;", 0, 20);
        range("budget 0 ", ";", 1, 16);
        range("cross ", ";", 0, 20);
        range("cross 5 ", ";", 0, 20);
        range("cross (1)", ";", 1, 9);
        for (int number = 0; number < 100; number++) {
            boolean allowed = number == 0 || number == 2 || number == 3;
            Check.due("plan " + number, Check.read("plan " + number + ";"), allowed ? 1 : -15);
        }
    }

    private static void range(String before, String after, int least, int most) {
        for (int number = 0; number < 100; number++) {
            int due = number >= least && number <= most ? 1 : -10 - before.length();
            Check.due(before + number, Check.read(before + number + after), due);
        }
        Check.due(before + "100", Check.read(before + "100" + after), -10 - before.length());
        Check.due(before + "01", Check.read(before + "01" + after), -10 - before.length());
        Check.due(before + "00", Check.read(before + "00" + after), -10 - before.length());
        Check.due(before + "4294967297", Check.read(before + "4294967297" + after), -10 - before.length());
    }

    /** Each row: a text, and its error position. */
    private static void pathErrors() {
        error("room 5", 6);
        error("room 5  ", 8);
        error("room", 4);
        error("cross (1", 8);
        error("cross (1)", 9);
        error("cross (1)2", 10);
        error("budget 3", 8);
        error("roo", 0);
        error(" roomy 5;", 1);
        error("room room;", 5);
        error("room 5 6;", 7);
        error("room ;", 5);
        error("room -1;", 5);
        error("room (5)1;", 5);
        error("budget 3;", 8);
        error("budget 3 4 5;", 11);
        error("5;", 0);
        error(";", 0);
        error("room 5;;", 7);
        error("(room 5;", 0);
        error("Room 5;", 0);
        error("xoom 5;", 0);
        error("roomz 5;", 0);
        error("room 5;z", 7);
        error("zoom 5;", 0);
        error("\0", 0);
        error("room 5; \0", 8);
        error("room 5`;", 6);
        error("room 5{;", 6);
        error("room 5/;", 6);
        error("room 5:;", 6);
        error("rOom 5;", 0);
        error("room\t5;", 4);
        error("room 5\u00e9;", 6);
        error("room 5;rate 2;room 6;", 14);
        error("rate 5;rate 5;", 7);
        error("mark 5;mark 5;", 7);
        error("budget 5 5;budget 5 5;", 11);
        error("plan 2;plan 2;", 7);
        error("cross 1;cross 1;cross 1;cross 1;cross 1;", 32);
        error("cross;", 5);
        error("cross 1 room 5;", 8);
        error("cross ();", 7);
        error("cross (1;", 8);
        error("cross 1 (1;", 10);
        error("cross 1 ((1)2;", 13);
        error("cross 1)2;", 7);
        error("cross (1);", 9);
        error("cross (1)0;", 9);
        error("cross (1)10;", 9);
        error("cross (1)(2)3;", 9);
        error("cross (1)a;", 9);
        error("cross ((1)2;", 11);
        error("cross ((((1)1)1)1)1;", -1);
        error("cross (((((1)1)1)1)1)1;", 10);
        error("cross ((((1)1(1)1)1)1)1 ((((1)1)1)1)1;", -1);
        error("cross ((((1)1(1)1)1)1)1 (((( (1", 29);
        Probes x = Check.typed(Check.path("room 3; cross 9; plan 2;"), "room 4; bad");
        x.steps(3);
        String before = Picture.of(x);
        Check.due("an error", x.path(), -18);
        Check.holds("an error changes nothing, and the text stays", Picture.of(x).equals(before));
        Check.due("the text stays", x.clear(), 11);
    }

    private static void error(String text, int position) {
        Check.due("path() of '" + text + "'", Check.read(text), position < 0 ? 1 : -10 - position);
    }

    private static void pathLengths() {
        String most = "cross ((1)8)5";
        Probes x = Check.path("cross 5(1 2 3 4)1;");
        Check.holds("a group taken once", Check.row(x, 0, 6).equals("5 1 2 3 4 5"));
        x = Check.path("cross (((1 2)9)9)2 ((3)9)8 3 3 3 4;");
        Check.due("length 400: the last number", x.row(0, 399), 4);
        Check.due("length 400: again from the first", x.row(0, 400), 1);
        Check.due("length 400: the last one before 9999", x.row(0, 9999), 4);
        Check.due("401 by a number", Check.read("cross (((1 2)9)9)2 ((3)9)8 3 3 3 4 5;"), -10 - 35);
        Check.due("401 by a group", Check.read("cross (((1 2)9)9)2 ((3)9)8 3 3 3 4 (5)1;"), -10 - 38);
        Check.due("405 by the times of a group", Check.read("cross (((1)9)9)5;"), -25);
        Check.due("401 in a group, by a number", Check.read("cross ((((1)8)5)9 ((1)8)5 1)1;"), -10 - 26);
        Check.due("400 in a group", Check.read("cross ((((1)8)5)9 ((1)8)5)1;"), 1);
        Check.due("400 in a group, twice", Check.read("cross ((((1)8)5)9 ((1)8)5)2;"), -10 - 26);
        // The lengths of levels that are open together may pass 400: only the end of a group adds them.
        String inner = "(((1)8)5)9((1)8)5";
        Check.due("two levels of 400", Check.read("cross " + inner + "(" + inner + ")1;"), -10 - 42);
        Check.due("two levels of 400, unfinished", Check.read("cross " + inner + "(" + inner), -10 - 41);
        Check.due("two levels of 400, another error", Check.read("cross " + inner + "(" + inner + " x"), -10 - 42);
        Check.due("one level of 399 and one of 1", Check.read("cross (" + inner + ")1;"), 1);
        Check.due("80 numbers", Check.read(most + ";"), 1);
        Check.due("the plan has the same limit", Check.read("plan (((0)9)9)5;"), -24);
        x = Check.path("plan (0 2)2 (3)3;");
        Check.holds("groups of a plan", Check.row(x, 4, 8).equals("0 2 0 2 3 3 3 0"));
        x = Check.path("cross ((1 (2)2)2 3)2;");
        Check.holds("groups within groups", Check.row(x, 0, 15).equals("1 2 2 1 2 2 3 1 2 2 1 2 2 3 1"));
    }

    private static void pathBeginsAnew() {
        Probes x = Check.path("room 2; rate 2; mark 1; budget 9 2; plan 2 3; cross 3; cross 1;");
        x.state(1);
        x.weight(0, 0, 12);
        x.draws(16, 3);
        x.trust(2, 5);
        x.steps(20);
        x.breaks(0);
        x.asks(2);
        Check.due("an empty text is a path", x.path(), 0);
        Check.due("the chain stays", x.count(12), 1);
        Check.due("its weights stay", x.share(0, 0), 1);
        x.empty();
        Check.holds("all else begins anew", Picture.of(x).equals(Picture.of(new Probes())));
        Check.due("no chance", x.draws(0, 0), 0);
        x.asks(2);
        pathBeginsAnewWhenBusy();
        Check.holds("slots begin anew", x.steps(3) == 0 && x.pattern(2, 0) == 1 && x.lossy(2) == 0 && x.lossy(3) == EpisodeProbes.NONE);
    }

    /** With a queue, delays, sights, active experiments and requests from before, all goes on as on a new object. */
    private static void pathBeginsAnewWhenBusy() {
        Probes x = Check.path("room 9; mark 1; plan 2 3; cross 3 1 0 0 0 0 0 0 0 4; budget 5 4;"), y = new Probes();
        for (int slot = 0; slot < 31; slot++) {
            x.asks(3);
            x.steps(1);
        }
        x.asks(2);
        Check.holds("probes wait, have left late and have seen 1", x.packets(4, 3) > 0 && x.delay(2) > 0 && x.slot(30, 1) > 0);
        x.path();
        Check.holds("as a new object", Picture.of(x).equals(Picture.of(y)));
        for (int slot = 0; slot < 31; slot++) {
            if (slot % 3 == 0) Check.due("asks", x.asks(2), y.asks(2));
            Check.due("steps", x.steps(1), y.steps(1));
            Check.holds("as a new object, slot " + slot, Picture.of(x).equals(Picture.of(y)));
        }
    }

    /** What an earlier text gave or spoilt does not matter to a later one. */
    private static void pathAfterPath() {
        Probes x = Check.path("room 2; rate 2; mark 1; budget 2 9; plan 2 3; cross 3; cross 1;");
        Check.typed(x, "room 4; rate 9; cross 7; cross 8; plan 3 (((2").path();
        x.clear();
        Check.due("one item", Check.typed(x, "cross 5;").path(), 1);
        Check.due("one source", x.count(10), 1);
        Check.due("no second source", x.row(1, 0), EpisodeProbes.BAD);
        Check.due("no plan", x.row(4, 0), EpisodeProbes.BAD);
        Check.due("the length of no plan", x.count(11), 0);
        Check.holds("the rest is as at first", Picture.of(x).equals(Picture.of(Check.path("cross 5;"))));
        Check.typed(x, "plan 2; cross (((1").path();
        x.clear();
        Check.due("the source stays after an error", x.row(0, 0), 5);
        Check.due("no plan after an error", x.count(11), 0);
        Check.due("a row after an unfinished group", Check.typed(x, "cross (2)3;").path(), 1);
        x.asks(2);
        x.asks(2);
        x.steps(1);
        Check.due("the budget is as at first", x.count(6), 0);
        for (int what = 0; what <= 2; what++) Check.due("no probe has left", x.delay(what), 0);
        x = Check.path("budget 2 9;");
        Check.typed(x, "budget 2").path();
        x.clear();
        x.path();
        x.path();
        for (int i = 0; i < 4; i++) x.asks(3);
        x.steps(1);
        for (int i = 0; i < 4; i++) x.asks(3);
        x.steps(1);
        Check.due("8 triples in 2 slots are within the budget as at first", x.count(5), 8);
    }

    private static void row() {
        Probes x = Check.path("cross 4 5; plan 3 0 2;");
        Check.due("row", x.row(0, 0), 4);
        Check.due("row", x.row(0, 9999), 5);
        Check.due("plan", x.row(4, 9998), 2);
        Check.due("no such source", x.row(1, 0), EpisodeProbes.BAD);
        Check.due("no such source", x.row(-1, 0), EpisodeProbes.BAD);
        Check.due("behind the plan", x.row(5, 0), EpisodeProbes.BAD);
        Check.due("slot below", x.row(0, -1), EpisodeProbes.BAD);
        Check.due("slot above", x.row(0, 10000), EpisodeProbes.BAD);
        Check.due("slot above, plan", x.row(4, 10000), EpisodeProbes.BAD);
        x = Check.path("cross 1;cross 2;cross 3;cross 4;");
        Check.due("fourth source", x.row(3, 7), 4);
        Check.due("no plan", x.row(4, 7), EpisodeProbes.BAD);
    }
}
