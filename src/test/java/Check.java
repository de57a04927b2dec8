/** What all tests share: the count of answers, typing of texts, and a picture of all that an object shows. */
final class Check {
    private static int right = 0, wrong = 0;

    private Check() {
    }

    static void due(String call, long got, long want) {
        if (got == want) {
            right++;
            return;
        }
        wrong++;
        if (wrong <= 20) System.out.println(call + " answered " + got + ", due is " + want);
    }

    static void holds(String claim, boolean isSo) {
        if (isSo) {
            right++;
            return;
        }
        wrong++;
        if (wrong <= 20) System.out.println("not so: " + claim);
    }

    /** Ends the program: with exit code 1 if an answer was wrong, or if there was none. */
    static void end(String name) {
        System.out.println(name + ": " + right + " right, " + wrong + " wrong");
        if (wrong > 0 || right == 0) System.exit(1);
    }

    static EpisodeProbes typed(EpisodeProbes x, String text) {
        for (int i = 0; i < text.length(); i++) x.type(text.charAt(i));
        return x;
    }

    /** An object whose path is read from a text. */
    static EpisodeProbes path(String text) {
        EpisodeProbes x = typed(new EpisodeProbes(), text);
        int items = x.path();
        if (items < 0) throw new IllegalStateException("the test's text is wrong: " + text);
        return x;
    }

    /** What path() answers to a text on a new object. */
    static int read(String text) {
        return typed(new EpisodeProbes(), text).path();
    }

    /** The numbers of a row, with spaces between them. */
    static String row(EpisodeProbes x, int source, int length) {
        StringBuilder row = new StringBuilder();
        for (int slot = 0; slot < length; slot++) row.append(slot == 0 ? "" : " ").append(x.row(source, slot));
        return row.toString();
    }

    /** All that calls can tell of an object without changing it. */
    static String picture(EpisodeProbes x) {
        StringBuilder all = new StringBuilder();
        for (int what = 0; what <= 13; what++) add(all, x.count(what));
        for (int row = 0; row <= 4; row++) {
            for (int slot = 0; slot < 12; slot++) add(all, x.row(row, slot));
            for (int what = 0; what <= 3; what++) add(all, x.packets(row, what));
        }
        int passed = x.count(0);
        for (int slot = Math.max(0, passed - 40); slot <= Math.min(passed, 1999); slot++) {
            add(all, x.lossy(slot));
            for (int what = 0; what <= 2; what++) add(all, x.slot(slot, what));
        }
        for (int k = 0; k < x.count(4); k++) {
            for (int what = 0; what <= 5; what++) add(all, x.episode(k, what));
        }
        for (int what = 0; what <= 2; what++) add(all, x.delay(what));
        for (int k = 0; k < x.count(8); k++) {
            for (int what = 0; what <= 2; what++) add(all, x.under(k, what));
        }
        for (int bits = 0; bits < 4; bits++) add(all, x.pattern(2, bits));
        for (int bits = 0; bits < 8; bits++) add(all, x.pattern(3, bits));
        addEstimates(all, x);
        addChain(all, x);
        for (int width = 1; width <= 4; width++) {
            for (int k = -1; k <= 3; k++) add(all, x.stab(width, k));
        }
        for (int n = 1; n <= 64; n += 9) {
            add(all, x.ahead(n, 0));
            add(all, x.ahead(n, 5));
            add(all, x.enough(n));
        }
        return all.toString();
    }

    private static void addEstimates(StringBuilder all, EpisodeProbes x) {
        for (int what = 0; what <= 1; what++) {
            for (int which = 0; which <= 2; which++) add(all, x.estimate(which, what));
            for (int which = 0; which <= 1; which++) add(all, x.truth(which, what));
        }
        for (int test = 0; test <= 3; test++) {
            add(all, x.agrees(test));
            // The tolerance can be seen only by setting it: it is set back.
            int most = x.trust(test, 0);
            x.trust(test, most);
            add(all, most);
        }
    }

    private static void addChain(StringBuilder all, EpisodeProbes x) {
        int states = x.count(12);
        for (int from = 0; from < states; from++) {
            for (int to = 0; to < states; to++) {
                int weight = x.weight(from, to, 0);
                x.weight(from, to, weight);
                add(all, weight);
            }
        }
        for (int what = 0; what <= 1; what++) {
            for (int state = 0; state < states; state++) add(all, x.share(state, what));
            for (int bits = 0; bits < 4; bits++) add(all, x.chance(2, bits, what));
            for (int bits = 0; bits < 8; bits++) add(all, x.chance(3, bits, what));
            for (int which = 0; which <= 2; which++) add(all, x.expected(which, what));
            for (int n = 1; n <= 3; n++) add(all, x.lasts(n, what));
        }
    }

    private static void add(StringBuilder all, long number) {
        all.append(number).append(' ');
    }
}
