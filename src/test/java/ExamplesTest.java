/** The four Examples of the document, call by call. */
public final class ExamplesTest {
    public static void main(String[] args) {
        fullQueue();
        unfinishedText();
        chain();
        randomExperiments();
        Check.end("ExamplesTest");
    }

    private static void type(Probes x, String text) {
        for (int i = 0; i < text.length(); i++) Check.due("type " + text.charAt(i), x.type(text.charAt(i)), i + 1);
    }

    private static void fullQueue() {
        Probes x = new Probes();
        type(x, "cross 7;");
        Check.due("path()", x.path(), 1);
        Check.due("asks(2)", x.asks(2), 1);
        Check.due("steps(6)", x.steps(6), 5);
        Check.due("lossy(2)", x.lossy(2), 1);
        Check.due("episode(0, 0)", x.episode(0, 0), 1);
        Check.due("truth(1, 0)", x.truth(1, 0), 5);
        Check.due("stab(2, -1)", x.stab(2, -1), 1);
        Check.due("ahead(3, 0)", x.ahead(3, 0), 18);
    }

    private static void unfinishedText() {
        Probes x = new Probes();
        type(x, "cross(9");
        Check.due("path()", x.path(), -17);
        Check.due("clear()", x.clear(), 7);
        Check.due("asks(3)", x.asks(3), 1);
        Check.due("asks(2)", x.asks(2), 2);
        Check.due("steps(1)", x.steps(1), 0);
        Check.due("under(0, 2)", x.under(0, 2), 0);
        Check.due("breaks(1)", x.breaks(1), 1);
        Check.due("count(7)", x.count(7), 1);
        Check.due("lossy(1)", x.lossy(1), -9);
    }

    private static void chain() {
        Probes x = new Probes();
        Check.due("state(1)", x.state(1), 0);
        Check.due("state(0)", x.state(0), 1);
        Check.due("weight(0, 0, 6)", x.weight(0, 0, 6), 0);
        Check.due("weight(0, 1, 6)", x.weight(0, 1, 6), 0);
        Check.due("weight(1, 0, 3)", x.weight(1, 0, 3), 0);
        Check.due("share(0, 0)", x.share(0, 0), -3);
        Check.due("weight(1, 1, 9)", x.weight(1, 1, 9), 0);
        Check.due("share(0, 0)", x.share(0, 0), 1);
        Check.due("share(0, 1)", x.share(0, 1), 3);
        Check.due("chance(2, 1, 1)", x.chance(2, 1, 1), 6);
        Check.due("expected(1, 0)", x.expected(1, 0), 2);
        Check.due("expected(2, 1)", x.expected(2, 1), 2);
        Check.due("lasts(3, 0)", x.lasts(3, 0), 1);
        Check.due("lasts(3, 1)", x.lasts(3, 1), 4);
        Check.due("lasts(40, 0)", x.lasts(40, 0), -6);
        Check.due("estimate(0, 0)", x.estimate(0, 0), -4);
    }

    private static void randomExperiments() {
        Probes x = new Probes();
        Check.due("draws(16, 5)", x.draws(16, 5), 0);
        Check.due("steps(4)", x.steps(4), 0);
        Check.due("count(5)", x.count(5), 4);
        Check.due("pattern(2, 0)", x.pattern(2, 0), 1);
        Check.due("slot(2, 0)", x.slot(2, 0), 2);
        Check.due("trust(1, 0)", x.trust(1, 0), 9999);
        Check.due("agrees(1)", x.agrees(1), 1);
        Check.due("delay(0)", x.delay(0), 4);
        Check.due("packets(4, 0)", x.packets(4, 0), 8);
        Check.due("packets(0, 0)", x.packets(0, 0), -1);
        Check.due("steps(33)", x.steps(33), -1);
        Check.due("enough(5)", x.enough(5), 6);
        Check.due("forget()", x.forget(), 2);
        Check.due("estimate(1, 0)", x.estimate(1, 0), -4);
        Check.due("truth(0, 1)", x.truth(0, 1), 1);
        Check.due("lossy(2000)", x.lossy(2000), -1);
    }
}
