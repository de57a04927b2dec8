/** What all tests share: the count of answers, typing of texts, and what a refused call must leave as it was. */
final class Check {
    /** A call, or some of them; what it answers is the last answer. */
    interface Call {
        long on(Probes x);
    }

    private static int right = 0, wrong = 0, sentences = 0;
    private static String sentence = "";

    private Check() {
    }

    /** The document's sentence that the next answers are about. */
    static void says(String promise) {
        sentence = promise + ": ";
        sentences++;
    }

    static void due(String call, long got, long want) {
        if (got == want) right++;
        else note(call + " answered " + got + ", due is " + want);
    }

    static void holds(String claim, boolean isSo) {
        if (isSo) right++;
        else note("not so: " + claim);
    }

    private static void note(String fault) {
        wrong++;
        if (wrong <= 20) System.out.println(sentence + fault);
    }

    /** Ends the program: with exit code 1 if an answer was wrong, or if there was none. */
    static void end(String name) {
        System.out.println(name + ": " + right + " right, " + wrong + " wrong" + (sentences > 0 ? ", of " + sentences + " sentences" : ""));
        if (wrong > 0 || right == 0) System.exit(1);
    }

    /** The answer of a call, told by the call itself. */
    static void answers(Probes x, long due, Call call) {
        long got = call.on(x);
        due(x.lastCall(), got, due);
    }

    /** A call that answers so, and changes nothing that the object shows, now or later. */
    static void same(Probes x, long due, Call call) {
        String before = Picture.of(x);
        answers(x, due, call);
        String after = Picture.of(x);
        holds(x.lastCall() + " changes nothing, but what was\n  " + before + " is\n  " + after, after.equals(before));
    }

    /** A call that is refused with this error, and so changes nothing. */
    static void refused(Probes x, long error, Call call) {
        if (error >= 0 || error == EpisodeProbes.NONE) throw new IllegalStateException("not an error: " + error);
        same(x, error, call);
    }

    static Probes typed(Probes x, String text) {
        for (int i = 0; i < text.length(); i++) x.type(text.charAt(i));
        return x;
    }

    /** An object whose path is read from a text. */
    static Probes path(String text) {
        Probes x = typed(new Probes(), text);
        int items = x.path();
        if (items < 0) throw new IllegalStateException("the test's text is wrong: " + text);
        return x;
    }

    /** What path() answers to a text on a new object. */
    static int read(String text) {
        return typed(new Probes(), text).path();
    }

    /** Lets so many slots pass, with as few calls as can be. */
    static Probes passed(Probes x, int slots) {
        for (int left = slots; left > 0; left -= 32) x.steps(Math.min(left, 32));
        return x;
    }

    /** A chain: which states are lossy, and the weights from each state. */
    static Probes chain(String lossy, int... weights) {
        Probes x = new Probes();
        int states = lossy.length();
        for (int s = 0; s < states; s++) x.state(lossy.charAt(s) - '0');
        for (int i = 0; i < states * states; i++) x.weight(i / states, i % states, weights[i]);
        return x;
    }

    /** An object in which everything that a call could change is unlike that of a new one. */
    static Probes busy() {
        Probes x = path("room 3;rate 2;mark 1;budget 9 3;plan 2 0 3;cross 4 0 1;cross 0 2 (1)4;");
        x.state(1);
        x.state(0);
        for (int i = 0; i < 4; i++) x.weight(i / 2, i % 2, i < 2 ? 6 : i == 2 ? 3 : 9);
        for (int test = 0; test < 4; test++) x.trust(test, 3 + test);
        x.draws(5, 77);
        x.asks(3);
        x.steps(13);
        x.asks(3);
        x.asks(2);
        return typed(x, "room 5; cross 1");
    }

    /** The numbers of a row, with spaces between them. */
    static String row(Probes x, int source, int length) {
        StringBuilder row = new StringBuilder();
        for (int slot = 0; slot < length; slot++) row.append(slot == 0 ? "" : " ").append(x.row(source, slot));
        return row.toString();
    }
}
