/**
 * All that an object shows, now and later, as a text. The object itself isn't
 * called: its twins are, as many as the questions need.
 */
final class Picture {
    private final Twins twins;
    private final StringBuilder all = new StringBuilder();

    private Picture(Probes base) {
        twins = new Twins(base);
    }

    static String of(Probes x) {
        Picture picture = new Picture(x);
        picture.addPath();
        picture.addRecords();
        picture.addEstimates();
        picture.addChain();
        picture.addPredictions();
        picture.addChance();
        picture.addText();
        picture.addFuture();
        return picture.all.toString();
    }

    private Probes ask() {
        return twins.one();
    }

    private void add(long number) {
        all.append(number).append(' ');
    }

    private void begin(String part) {
        all.append(part).append(": ");
    }

    private void addPath() {
        begin("path");
        for (int what = 0; what <= 13; what++) add(ask().count(what));
        for (int row = 0; row <= 4; row++) {
            for (int slot = 0; slot < 8; slot++) add(ask().row(row, slot));
            add(ask().row(row, 9999));
            for (int what = 0; what <= 3; what++) add(ask().packets(row, what));
        }
    }

    private void addRecords() {
        begin("records");
        int passed = ask().count(0), episodes = ask().count(4), active = ask().count(8);
        for (int slot = Math.max(0, passed - 16); slot <= Math.min(passed, 1999); slot++) {
            add(ask().lossy(slot));
            for (int what = 0; what <= 2; what++) add(ask().slot(slot, what));
        }
        for (int k = 0; k < episodes; k++) {
            if (k > 4 && k < episodes - 4) continue;
            for (int what = 0; what <= 5; what++) add(ask().episode(k, what));
        }
        for (int what = 0; what <= 2; what++) add(ask().delay(what));
        for (int k = 0; k < active; k++) {
            for (int what = 0; what <= 2; what++) add(ask().under(k, what));
        }
    }

    private void addEstimates() {
        begin("estimates");
        for (int bits = 0; bits < 4; bits++) add(ask().pattern(2, bits));
        for (int bits = 0; bits < 8; bits++) add(ask().pattern(3, bits));
        for (int what = 0; what <= 1; what++) {
            for (int which = 0; which <= 2; which++) add(ask().estimate(which, what));
            for (int which = 0; which <= 1; which++) add(ask().truth(which, what));
        }
        for (int test = 0; test <= 3; test++) add(ask().agrees(test));
        // A tolerance shows when it is changed.
        Probes changed = twins.changeable(4);
        for (int test = 0; test <= 3; test++) add(changed.trust(test, 0));
    }

    private void addChain() {
        begin("chain");
        int states = ask().count(12);
        for (int what = 0; what <= 1; what++) {
            for (int state = 0; state < states; state++) add(ask().share(state, what));
            for (int bits = 0; bits < 4; bits++) add(ask().chance(2, bits, what));
            for (int bits = 0; bits < 8; bits++) add(ask().chance(3, bits, what));
            for (int which = 0; which <= 2; which++) add(ask().expected(which, what));
            for (int n = 1; n <= 3; n++) add(ask().lasts(n, what));
        }
        Probes changed = twins.changeable(states * states);
        for (int from = 0; from < states; from++) {
            for (int to = 0; to < states; to++) add(changed.weight(from, to, 0));
        }
    }

    private void addPredictions() {
        begin("predictions");
        for (int width = 1; width <= 4; width++) {
            for (int k = -1; k <= 3; k++) add(ask().stab(width, k));
        }
        for (int n = 1; n <= 64; n += 9) {
            add(ask().ahead(n, 0));
            add(ask().ahead(n, 5));
            add(ask().enough(n));
        }
    }

    private void addChance() {
        begin("chance");
        add(twins.changeable(1).draws(0, 0));
    }

    /** What the text would do. */
    private void addText() {
        begin("text");
        Probes changed = twins.changeable(25);
        add(changed.path());
        for (int what = 9; what <= 13; what++) add(changed.count(what));
        for (int row = 0; row <= 4; row++) {
            for (int slot = 0; slot < 3; slot++) add(changed.row(row, slot));
        }
        add(changed.clear());
    }

    /** What the next slots bring: requests, draws, active experiments, the order in the queue. */
    private void addFuture() {
        begin("future");
        Probes changed = twins.changeable(5 * 11 + 8);
        for (int slot = 0; slot < 5; slot++) {
            add(changed.steps(1));
            for (int what = 5; what <= 8; what++) add(changed.count(what));
            for (int k = 0; k < 3; k++) add(changed.under(k, 0));
            for (int what = 0; what <= 1; what++) add(changed.delay(what));
            add(changed.packets(0, 3));
            add(changed.packets(4, 1));
        }
        for (int bits = 0; bits < 8; bits++) add(changed.pattern(3, bits));
    }
}
