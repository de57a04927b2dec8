/** ERRORS: if several errors apply, the first one in the order is returned; NONE only if no error applies. */
public final class ErrorOrderTest {
    private static final int BAD = EpisodeProbes.BAD, FULL = EpisodeProbes.FULL, STATE = EpisodeProbes.STATE, FEW = EpisodeProbes.FEW,
            UNLIKE = EpisodeProbes.UNLIKE, OVER = EpisodeProbes.OVER, NONE = EpisodeProbes.NONE;

    public static void main(String[] args) {
        numbers();
        badBeforeFull();
        badBeforeState();
        badBeforeFew();
        badBeforeUnlike();
        badBeforeOver();
        stateBeforeFew();
        stateBeforeOver();
        fewBeforeUnlike();
        fewBeforeOver();
        badBeforeNone();
        errorsInABusyObject();
        Check.end("ErrorOrderTest");
    }

    private static void numbers() {
        Check.says("ERRORS: BAD -1, FULL -2, STATE -3, FEW -4, UNLIKE -5, OVER -6, NONE -9");
        int[] due = {-1, -2, -3, -4, -5, -6, -9}, are = {BAD, FULL, STATE, FEW, UNLIKE, OVER, NONE};
        for (int i = 0; i < due.length; i++) Check.due("constant", are[i], due[i]);
        Check.answers(new Probes(), -1, x -> x.type(256));
        Check.answers(Check.typed(new Probes(), " ".repeat(200)), -2, x -> x.type(32));
        Check.answers(new Probes(), -3, x -> x.lasts(1, 0));
        Check.answers(new Probes(), -4, x -> x.truth(0, 0));
        Check.answers(unlike(), -5, x -> x.estimate(0, 0));
        Check.answers(Check.chain("01", 0, 12, 12, 0), -6, x -> x.lasts(18, 0));
        Check.answers(new Probes(), -9, x -> x.lossy(0));
    }

    /** One pair 01, and the tolerance 0. */
    private static Probes unlike() {
        Probes x = Check.path("room 1;cross 0 1;");
        x.asks(2);
        x.steps(2);
        x.trust(0, 0);
        return x;
    }

    private static void both(Probes x, int error, Check.Call right, int due, Check.Call wrong) {
        Check.answers(x.twin(), error, right);
        Check.refused(x, due, wrong);
    }

    private static void badBeforeFull() {
        Check.says("BAD before FULL: type");
        Probes x = Check.typed(new Probes(), " ".repeat(200));
        both(x, FULL, p -> p.type(255), BAD, p -> p.type(256));
        both(x, FULL, p -> p.type(0), BAD, p -> p.type(-1));
        Check.says("BAD before FULL: steps");
        x = Check.passed(new Probes(), 2000);
        both(x, FULL, p -> p.steps(1), BAD, p -> p.steps(0));
        both(x, FULL, p -> p.steps(32), BAD, p -> p.steps(33));
        both(x, FULL, p -> p.steps(1), BAD, p -> p.steps(-1));
        both(x, FULL, p -> p.steps(32), BAD, p -> p.steps(Integer.MAX_VALUE));
        x = Check.passed(new Probes(), 1990);
        both(x, FULL, p -> p.steps(11), BAD, p -> p.steps(33));
        Check.says("BAD before FULL: asks");
        x = new Probes();
        for (int i = 0; i < 4; i++) x.asks(2);
        both(x, FULL, p -> p.asks(2), BAD, p -> p.asks(1));
        both(x, FULL, p -> p.asks(3), BAD, p -> p.asks(4));
        Check.says("BAD before FULL: state");
        x = new Probes();
        for (int i = 0; i < 5; i++) x.state(1);
        both(x, FULL, p -> p.state(0), BAD, p -> p.state(-1));
        both(x, FULL, p -> p.state(1), BAD, p -> p.state(2));
    }

    private static Probes unsound() {
        return Check.chain("10", 6, 6, 3, 8);
    }

    private static void badBeforeState() {
        Check.says("BAD before STATE: share");
        both(unsound(), STATE, p -> p.share(0, 0), BAD, p -> p.share(2, 0));
        both(unsound(), STATE, p -> p.share(0, 0), BAD, p -> p.share(-1, 0));
        both(unsound(), STATE, p -> p.share(1, 1), BAD, p -> p.share(1, 2));
        both(unsound(), STATE, p -> p.share(1, 0), BAD, p -> p.share(1, -1));
        Check.refused(new Probes(), BAD, p -> p.share(0, 0));
        Check.says("BAD before STATE: chance");
        for (Probes x : new Probes[] {unsound(), new Probes()}) {
            both(x, STATE, p -> p.chance(2, 3, 0), BAD, p -> p.chance(2, 4, 0));
            both(x, STATE, p -> p.chance(2, 0, 0), BAD, p -> p.chance(2, -1, 0));
            both(x, STATE, p -> p.chance(3, 7, 0), BAD, p -> p.chance(3, 8, 0));
            both(x, STATE, p -> p.chance(3, 0, 1), BAD, p -> p.chance(3, 0, 2));
            both(x, STATE, p -> p.chance(3, 0, 0), BAD, p -> p.chance(3, 0, -1));
            both(x, STATE, p -> p.chance(2, 0, 0), BAD, p -> p.chance(1, 0, 0));
            both(x, STATE, p -> p.chance(3, 0, 0), BAD, p -> p.chance(4, 0, 0));
        }
        Check.says("BAD before STATE: expected, lasts");
        for (Probes x : new Probes[] {unsound(), new Probes()}) {
            both(x, STATE, p -> p.expected(0, 0), BAD, p -> p.expected(-1, 0));
            both(x, STATE, p -> p.expected(2, 1), BAD, p -> p.expected(3, 1));
            both(x, STATE, p -> p.expected(0, 1), BAD, p -> p.expected(0, 2));
            both(x, STATE, p -> p.expected(0, 0), BAD, p -> p.expected(0, -1));
            both(x, STATE, p -> p.lasts(1, 0), BAD, p -> p.lasts(0, 0));
            both(x, STATE, p -> p.lasts(40, 0), BAD, p -> p.lasts(41, 0));
            both(x, STATE, p -> p.lasts(1, 1), BAD, p -> p.lasts(1, 2));
            both(x, STATE, p -> p.lasts(1, 0), BAD, p -> p.lasts(1, -1));
        }
    }

    private static void badBeforeFew() {
        Check.says("BAD before FEW: estimate, truth");
        for (int which = 0; which <= 2; which++) {
            int w = which;
            both(new Probes(), FEW, p -> p.estimate(w, 1), BAD, p -> p.estimate(w, 2));
            both(new Probes(), FEW, p -> p.estimate(w, 0), BAD, p -> p.estimate(w, -1));
            if (w < 2) both(new Probes(), FEW, p -> p.truth(w, 1), BAD, p -> p.truth(w, 2));
            if (w < 2) both(new Probes(), FEW, p -> p.truth(w, 0), BAD, p -> p.truth(w, -1));
        }
        both(new Probes(), FEW, p -> p.estimate(2, 0), BAD, p -> p.estimate(3, 0));
        both(new Probes(), FEW, p -> p.estimate(0, 0), BAD, p -> p.estimate(-1, 0));
        both(new Probes(), FEW, p -> p.truth(1, 0), BAD, p -> p.truth(2, 0));
        both(new Probes(), FEW, p -> p.truth(0, 0), BAD, p -> p.truth(-1, 0));
        Check.says("BAD before FEW: expected, lasts");
        Probes x = Check.chain("1", 12);
        both(x, FEW, p -> p.expected(1, 1), BAD, p -> p.expected(1, 2));
        both(x, FEW, p -> p.expected(2, 0), BAD, p -> p.expected(2, -1));
        both(x, FEW, p -> p.expected(2, 0), BAD, p -> p.expected(3, 0));
        both(x, FEW, p -> p.lasts(1, 0), BAD, p -> p.lasts(0, 0));
        both(x, FEW, p -> p.lasts(40, 0), BAD, p -> p.lasts(41, 0));
        both(x, FEW, p -> p.lasts(1, 1), BAD, p -> p.lasts(1, 2));
        both(x, FEW, p -> p.lasts(1, 0), BAD, p -> p.lasts(1, -1));
    }

    private static void badBeforeUnlike() {
        Check.says("BAD before UNLIKE: estimate");
        for (int which = 0; which <= 1; which++) {
            int w = which;
            both(unlike(), UNLIKE, p -> p.estimate(w, 1), BAD, p -> p.estimate(w, 2));
            both(unlike(), UNLIKE, p -> p.estimate(w, 0), BAD, p -> p.estimate(w, -1));
        }
        both(unlike(), UNLIKE, p -> p.estimate(0, 0), BAD, p -> p.estimate(-1, 0));
        both(unlike(), UNLIKE, p -> p.estimate(1, 0), BAD, p -> p.estimate(3, 0));
    }

    private static void badBeforeOver() {
        Check.says("BAD before OVER: lasts");
        Probes x = Check.chain("10", 6, 6, 3, 9);
        both(x, OVER, p -> p.lasts(40, 0), BAD, p -> p.lasts(41, 0));
        both(x, OVER, p -> p.lasts(40, 1), BAD, p -> p.lasts(40, 2));
        both(x, OVER, p -> p.lasts(18, 0), BAD, p -> p.lasts(18, -1));
    }

    private static void stateBeforeFew() {
        Check.says("STATE before FEW: expected, lasts");
        for (String lossy : new String[] {"11", "00"}) {
            for (int which = 1; which <= 2; which++) {
                int w = which;
                Check.answers(Check.chain(lossy, 6, 6, 3, 9), FEW, p -> p.expected(w, 0));
                Check.refused(Check.chain(lossy, 6, 6, 3, 8), STATE, p -> p.expected(w, 0));
                Check.refused(Check.chain(lossy, 12, 0, 0, 12), STATE, p -> p.expected(w, 1));
            }
            for (int n : new int[] {1, 17, 40}) {
                Check.answers(Check.chain(lossy, 6, 6, 3, 9), FEW, p -> p.lasts(n, 0));
                Check.refused(Check.chain(lossy, 6, 6, 3, 10), STATE, p -> p.lasts(n, 0));
                Check.refused(Check.chain(lossy, 12, 0, 3, 9), STATE, p -> p.lasts(n, 1));
            }
        }
    }

    private static void stateBeforeOver() {
        Check.says("STATE before OVER: lasts");
        Check.answers(Check.chain("10", 6, 6, 3, 9), OVER, p -> p.lasts(40, 0));
        Check.refused(Check.chain("10", 6, 6, 3, 8), STATE, p -> p.lasts(40, 0));
        Check.refused(Check.chain("10", 6, 6, 3, 10), STATE, p -> p.lasts(40, 1));
        Check.refused(Check.chain("10", 6, 6, 0, 12), STATE, p -> p.lasts(40, 1));
    }

    private static void fewBeforeUnlike() {
        Check.says("FEW before UNLIKE: estimate");
        Probes x = unlike();
        both(x, UNLIKE, p -> p.estimate(1, 0), FEW, p -> p.estimate(2, 0));
        both(x, UNLIKE, p -> p.estimate(0, 1), FEW, p -> p.estimate(2, 1));
        // A triple 110 and none 011: S is 0, and test 3 is not met.
        x = Check.path("room 1;cross 1 1 0;");
        x.asks(3);
        x.steps(3);
        x.trust(3, 0);
        both(x, UNLIKE, p -> p.estimate(0, 0), FEW, p -> p.estimate(1, 0));
        both(x, UNLIKE, p -> p.estimate(0, 1), FEW, p -> p.estimate(2, 1));
        x.forget();
        Check.refused(x, FEW, p -> p.estimate(0, 0));
    }

    private static void fewBeforeOver() {
        Check.says("FEW before OVER: lasts");
        Check.refused(Check.chain("11", 6, 6, 3, 9), FEW, p -> p.lasts(40, 0));
        Check.refused(Check.chain("00", 6, 6, 3, 9), FEW, p -> p.lasts(40, 1));
        Check.refused(Check.chain("0", 12), FEW, p -> p.lasts(19, 0));
    }

    private static void badBeforeNone() {
        Check.says("NONE only if no error applies: slot");
        Probes x = new Probes();
        x.steps(3);
        both(x, NONE, p -> p.slot(3, 0), BAD, p -> p.slot(3, -1));
        both(x, NONE, p -> p.slot(3, 2), BAD, p -> p.slot(3, 3));
        both(x, NONE, p -> p.slot(1999, 0), BAD, p -> p.slot(2000, 0));
        both(x, NONE, p -> p.slot(1999, 2), BAD, p -> p.slot(1999, 3));
        Check.says("NONE only if no error applies: lossy");
        both(x, NONE, p -> p.lossy(3), BAD, p -> p.lossy(-1));
        both(x, NONE, p -> p.lossy(1999), BAD, p -> p.lossy(2000));
        Check.says("NONE only if no error applies: stab");
        both(x, NONE, p -> p.stab(1, 0), BAD, p -> p.stab(0, 0));
        both(x, NONE, p -> p.stab(4, 9), BAD, p -> p.stab(5, 9));
        both(x, NONE, p -> p.stab(4, 9), BAD, p -> p.stab(4, -2));
        Check.says("NONE only if no error applies: enough");
        x = Check.path("cross 20;cross 20;cross 20;");
        both(x, NONE, p -> p.enough(1), BAD, p -> p.enough(0));
        both(x, NONE, p -> p.enough(64), BAD, p -> p.enough(65));
    }

    private static void errorsInABusyObject() {
        Check.says("a call that returns an error changes nothing");
        Check.refused(Check.busy(), BAD, x -> x.type(-1));
        Check.refused(Check.busy(), BAD, x -> x.row(2, 0));
        Check.refused(Check.busy(), BAD, x -> x.steps(33));
        Check.refused(Check.busy(), BAD, x -> x.asks(4));
        Check.refused(Check.busy(), BAD, x -> x.draws(17, 0));
        Check.refused(Check.busy(), BAD, x -> x.breaks(9));
        Check.refused(Check.busy(), BAD, x -> x.lossy(2000));
        Check.refused(Check.busy(), BAD, x -> x.slot(0, 3));
        Check.refused(Check.busy(), BAD, x -> x.episode(0, 6));
        Check.refused(Check.busy(), BAD, x -> x.packets(2, 0));
        Check.refused(Check.busy(), BAD, x -> x.delay(3));
        Check.refused(Check.busy(), BAD, x -> x.under(0, 3));
        Check.refused(Check.busy(), BAD, x -> x.pattern(2, 4));
        Check.refused(Check.busy(), BAD, x -> x.trust(0, 10000));
        Check.refused(Check.busy(), BAD, x -> x.agrees(4));
        Check.refused(Check.busy(), BAD, x -> x.estimate(3, 0));
        Check.refused(Check.busy(), BAD, x -> x.truth(2, 0));
        Check.refused(Check.busy(), BAD, x -> x.state(2));
        Check.refused(Check.busy(), BAD, x -> x.weight(0, 2, 5));
        Check.refused(Check.busy(), BAD, x -> x.share(2, 0));
        Check.refused(Check.busy(), BAD, x -> x.chance(3, 8, 0));
        Check.refused(Check.busy(), BAD, x -> x.expected(3, 0));
        Check.refused(Check.busy(), OVER, x -> x.lasts(40, 0));
        Check.refused(Check.busy(), BAD, x -> x.stab(5, 0));
        Check.refused(Check.busy(), BAD, x -> x.ahead(65, 0));
        Check.refused(Check.busy(), BAD, x -> x.enough(65));
        Check.refused(Check.busy(), BAD, x -> x.count(14));
        Check.refused(Check.busy(), -10 - 15, x -> x.path());
    }
}
