/** Compares the class with the slow model on many runs of calls, drawn by a fixed rule. */
public final class ModelTest {
    /** A little more than a text takes. */
    private static final int MOST_TYPED = 203;
    /** The calls that are left for questions at the end of a run. */
    private static final int LOOKS = 60;
    private static long seed = 1;
    private static Probes x;
    private static Model m;

    public static void main(String[] args) {
        for (int run = 0; run < 2000; run++) shortRun(run);
        for (int run = 0; run < 40; run++) longRun(run);
        for (int run = 0; run < 4000; run++) texts(run);
        for (int run = 0; run < 1500; run++) chains(run);
        Check.end("ModelTest");
    }

    /** A number from 0 to bound - 1. */
    private static int draw(int bound) {
        seed = seed * 6364136223846793005L + 1442695040888963407L;
        return (int) Math.floorMod(seed >> 33, (long) bound);
    }

    private static int between(int least, int most) {
        return least + draw(most - least + 1);
    }

    /** Mostly a number in a range, at times one just outside or far from it. */
    private static int about(int least, int most) {
        int kind = draw(40);
        if (kind == 0) return least - 1;
        if (kind == 1) return most + 1;
        if (kind == 2) return (int) (seed >> 20);
        if (kind == 3) return draw(2) == 0 ? Integer.MIN_VALUE : Integer.MAX_VALUE;
        return between(least, most);
    }

    private static void begin(int run) {
        seed = 77 + 1000003L * run;
        x = new Probes();
        m = new Model();
    }

    // ---- texts

    private static String spaces() {
        return draw(4) == 0 ? "  ".substring(draw(2)) : "";
    }

    private static String terms(boolean plan, int depth) {
        StringBuilder row = new StringBuilder();
        int terms = between(1, depth == 0 ? 5 : 3);
        for (int i = 0; i < terms; i++) {
            if (draw(4) == 0 && depth < 5) {
                row.append('(').append(spaces()).append(terms(plan, depth + 1)).append(spaces()).append(')').append(spaces());
                row.append(draw(30) == 0 ? draw(12) : between(1, draw(5) == 0 ? 9 : 3));
            } else {
                row.append(plan ? "0223".charAt(draw(4)) : "001111223357".charAt(draw(12)));
                if (!plan && draw(20) == 0) row.append(draw(10));
            }
            row.append(draw(30) == 0 ? "" : " ").append(spaces());
        }
        return row.toString();
    }

    private static String item() {
        switch (draw(8)) {
            case 0: return "room " + about(1, 12);
            case 1: return "rate " + between(1, draw(3) == 0 ? 10 : 3);
            case 2: return "mark " + between(0, draw(3) == 0 ? 41 : 8);
            case 3: return "budget " + between(0, draw(3) == 0 ? 21 : 8) + " " + between(draw(9) == 0 ? 0 : 1, draw(3) == 0 ? 17 : 6);
            case 4: return "plan " + terms(true, 0);
            default: return "cross " + terms(false, 0);
        }
    }

    private static String text() {
        StringBuilder text = new StringBuilder(spaces());
        int items = draw(7);
        for (int i = 0; i < items; i++) text.append(item()).append(spaces()).append(';').append(spaces());
        return text.toString();
    }

    /** A text with a few wrong signs. */
    private static String spoilt(String text) {
        StringBuilder all = new StringBuilder(text);
        for (int i = draw(3); i >= 0 && all.length() > 0; i--) {
            int place = draw(all.length());
            char sign = "()09; ar,A~\u00e9\t2"
                    .charAt(draw(14));
            switch (draw(4)) {
                case 0: all.setCharAt(place, sign); break;
                case 1: all.insert(place, sign); break;
                case 2: all.deleteCharAt(place); break;
                default: all.setLength(place);
            }
        }
        return all.toString();
    }

    private static void type(String text) {
        for (int i = 0; i < text.length() && i < MOST_TYPED; i++) {
            Check.due("type", x.type(text.charAt(i)), m.type(text.charAt(i)));
        }
    }

    private static void readPath() {
        int[] answer = new int[1];
        String text = m.text;
        m = m.afterPath(answer);
        Check.due("path() of '" + text + "'", x.path(), answer[0]);
        Check.due("count(13)", x.count(13), m.count(13));
    }

    private static void texts(int run) {
        begin(run);
        type(draw(3) > 0 ? spoilt(text()) : text());
        readPath();
        Twins twins = new Twins(x);
        for (int row = 0; row <= 4; row++) {
            for (int slot = 0; slot < 450; slot += between(1, 3)) Check.due("row", twins.one().row(row, slot), m.row(row, slot));
        }
        for (int what = 9; what <= 14; what++) Check.due("count", x.count(what), m.count(what));
    }

    // ---- runs of calls

    private static void shortRun(int run) {
        begin(run);
        type(text());
        readPath();
        for (int i = 0; i < 150 && x.callsLeft() > LOOKS; i++) call(12);
        look();
    }

    private static void longRun(int run) {
        begin(run);
        type(text());
        readPath();
        for (int i = 0; i < 64 && x.callsLeft() > LOOKS; i++) {
            call(32);
            Check.due("steps", x.steps(32), m.steps(32));
        }
        look();
    }

    private static void call(int most) {
        if (draw(3) > 0) {
            change(most);
            return;
        }
        ask();
    }

    private static void change(int most) {
        int a = about(0, 4), b = about(0, 4), c = about(0, 12);
        switch (draw(16)) {
            case 0: case 1: case 2: case 3: case 4: {
                int n = about(1, draw(3) == 0 ? most : 3);
                Check.due("steps " + n, x.steps(n), m.steps(n));
                break;
            }
            case 5: case 6: case 7: {
                int kind = about(2, 3);
                Check.due("asks " + kind, x.asks(kind), m.asks(kind));
                break;
            }
            case 8: {
                int chance = about(0, 16), from = (int) (seed >> 17);
                Check.due("draws", x.draws(chance, from), m.draws(chance, from));
                break;
            }
            case 9: case 10: Check.due("breaks " + a, x.breaks(a), m.breaks(a)); break;
            case 11: {
                int tolerance = about(0, draw(3) == 0 ? 9999 : 4);
                Check.due("trust", x.trust(a, tolerance), m.trust(a, tolerance));
                break;
            }
            case 12: {
                int isLossy = about(0, 1);
                Check.due("state", x.state(isLossy), m.state(isLossy));
                break;
            }
            case 13: Check.due("weight", x.weight(a, b, c), m.weight(a, b, c)); break;
            case 14: rarely(); break;
            default: Check.due("type", x.type(c), m.type(c));
        }
    }

    private static void rarely() {
        if (x.callsLeft() < MOST_TYPED + LOOKS) return;
        switch (draw(12)) {
            case 0: Check.due("forget", x.forget(), m.forget()); break;
            case 1: Check.due("empty", x.empty(), m.empty()); break;
            case 2: Check.due("clear", x.clear(), m.clear()); type(text()); readPath(); break;
            case 3: Check.due("clear", x.clear(), m.clear()); type(spoilt(text())); readPath(); break;
            default: Check.due("clear", x.clear(), m.clear());
        }
    }

    private static void ask() {
        int a = about(0, 4), b = about(0, 3), c = about(0, 1);
        int slot = draw(3) == 0 ? about(0, 1999) : about(0, m.passed), k = about(0, 6);
        switch (draw(20)) {
            case 0: Check.due("row", x.row(a, slot), m.row(a, slot)); break;
            case 1: Check.due("lossy", x.lossy(slot), m.lossy(slot)); break;
            case 2: Check.due("slot", x.slot(slot, b), m.slot(slot, b)); break;
            case 3: case 4: Check.due("episode", x.episode(k, k), m.episode(k, k)); break;
            case 5: Check.due("packets", x.packets(a, b), m.packets(a, b)); break;
            case 6: Check.due("delay", x.delay(b), m.delay(b)); break;
            case 7: Check.due("under", x.under(a, b), m.under(a, b)); break;
            case 8: Check.due("pattern", x.pattern(b, k), m.pattern(b, k)); break;
            case 9: Check.due("agrees", x.agrees(a), m.agrees(a)); break;
            case 10: Check.due("estimate", x.estimate(b, c), m.estimate(b, c)); break;
            case 11: Check.due("truth", x.truth(b, c), m.truth(b, c)); break;
            case 12: Check.due("share", x.share(a, c), m.share(a, c)); break;
            case 13: Check.due("chance", x.chance(b, k, c), m.chance(b, k, c)); break;
            case 14: Check.due("expected", x.expected(b, c), m.expected(b, c)); break;
            case 15: Check.due("lasts", x.lasts(k, c), m.lasts(k, c)); break;
            case 16: {
                if (m.passed > 300) return;
                Check.due("stab", x.stab(a, k - 1), m.stab(a, k - 1));
                break;
            }
            case 17: {
                int n = about(1, 64), more = about(0, 20);
                Check.due("ahead", x.ahead(n, more), m.ahead(n, more));
                break;
            }
            case 18: {
                int n = about(1, 64);
                Check.due("enough", x.enough(n), m.enough(n));
                break;
            }
            default: {
                int what = about(0, 13);
                Check.due("count " + what, x.count(what), m.count(what));
            }
        }
    }

    /** Compares all that can be seen at the end of a run. */
    private static void look() {
        Twins twins = new Twins(x);
        for (int what = 0; what <= 13; what++) Check.due("count " + what, twins.one().count(what), m.count(what));
        for (int slot = 0; slot < 2000; slot += slot <= m.passed ? 1 : 333) {
            Check.due("lossy", twins.one().lossy(slot), m.lossy(slot));
            for (int what = 0; what <= 2; what++) Check.due("slot", twins.one().slot(slot, what), m.slot(slot, what));
        }
        for (int k = 0; k <= Math.min(60, m.count(4)); k++) {
            for (int what = 0; what <= 5; what++) Check.due("episode", twins.one().episode(k, what), m.episode(k, what));
        }
        for (int source = 0; source <= 4; source++) {
            for (int what = 0; what <= 3; what++) Check.due("packets", twins.one().packets(source, what), m.packets(source, what));
        }
        for (int what = 0; what <= 2; what++) {
            Check.due("delay", twins.one().delay(what), m.delay(what));
            for (int k = 0; k <= m.count(8); k++) Check.due("under", twins.one().under(k, what), m.under(k, what));
        }
        for (int what = 0; what <= 1; what++) {
            for (int which = 0; which <= 2; which++) Check.due("estimate", twins.one().estimate(which, what), m.estimate(which, what));
            for (int which = 0; which <= 1; which++) Check.due("truth", twins.one().truth(which, what), m.truth(which, what));
        }
        for (int width = 1; width <= 4 && m.passed <= 300; width++) {
            for (int k = -1; k < 12; k++) Check.due("stab", twins.one().stab(width, k), m.stab(width, k));
        }
        for (int n = 1; n <= 64; n++) {
            Check.due("ahead", twins.one().ahead(n, n % 21), m.ahead(n, n % 21));
            Check.due("enough", twins.one().enough(n), m.enough(n));
        }
    }

    // ---- chains

    private static void chains(int run) {
        begin(run);
        for (int i = between(1, 3); i > 0; i--) {
            Check.due("empty", x.empty(), m.empty());
            oneChain();
        }
    }

    private static void oneChain() {
        int states = between(1, 5), share = between(1, 5);
        for (int s = 0; s < states; s++) {
            int isLossy = draw(6) < share ? 1 : 0;
            Check.due("state", x.state(isLossy), m.state(isLossy));
        }
        for (int from = 0; from < states; from++) weigh(from, states);
        if (draw(6) == 0) Check.due("weight", x.weight(0, 0, 5), m.weight(0, 0, 5));
        for (int what = 0; what <= 1; what++) {
            for (int s = 0; s <= states; s++) Check.due("share", x.share(s, what), m.share(s, what));
            for (int bits = 0; bits <= 4; bits++) Check.due("chance", x.chance(2, bits, what), m.chance(2, bits, what));
            for (int bits = 0; bits <= 8; bits++) Check.due("chance", x.chance(3, bits, what), m.chance(3, bits, what));
            for (int which = 0; which <= 2; which++) Check.due("expected", x.expected(which, what), m.expected(which, what));
            for (int n = 1; n <= 20; n++) Check.due("lasts", x.lasts(n, what), m.lasts(n, what));
        }
    }

    /** Shares out 12 among the states that one leads to; many weights stay 0. */
    private static void weigh(int from, int states) {
        int[] weights = new int[states];
        int chosen = draw(1 << states);
        for (int left = 12; left > 0; ) {
            int to = draw(states);
            if ((chosen & 1 << to) == 0 && draw(8) > 0) continue;
            int some = between(1, left);
            weights[to] += some;
            left -= some;
        }
        for (int to = 0; to < states; to++) {
            Check.due("weight", x.weight(from, to, weights[to]), m.weight(from, to, weights[to]));
        }
    }
}
