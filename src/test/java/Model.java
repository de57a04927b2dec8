import java.math.BigInteger;
import java.util.ArrayList;
import java.util.HashMap;
import java.util.List;
import java.util.Map;

/**
 * The document written a second time, as slowly and as literally as can be, so
 * that ModelTest can compare the class with it. It shares nothing with the class.
 */
final class Model {
    static final int BAD = -1, FULL = -2, STATE = -3, FEW = -4, UNLIKE = -5, OVER = -6, NONE = -9;

    /** A text that is not a path; where it goes wrong. */
    private static final class Wrong extends Exception {
        private static final long serialVersionUID = 1L;
        final int position;

        Wrong(int position) {
            super("", null, false, false);
            this.position = position;
        }
    }

    private static final class Packet {
        final int sender, slot;

        Packet(int sender, int slot) {
            this.sender = sender;
            this.slot = slot;
        }
    }

    private static final class Experiment {
        final int kind, begin;
        final List<Integer> saw = new ArrayList<>();
        boolean aborted;

        Experiment(int kind, int begin) {
            this.kind = kind;
            this.begin = begin;
        }

        boolean sendsIn(int slot) {
            return slot >= begin && slot < begin + kind;
        }

        int bits() {
            int bits = 0;
            for (int bit : saw) bits = bits * 2 + bit;
            return bits;
        }
    }

    String text = "";

    // the path
    int capacity = 10, rate = 1, mark = 40, budgetN = 20, budgetW = 1;
    List<List<Integer>> sources = new ArrayList<>();
    List<Integer> plan = null;

    // the slots
    int passed = 0;
    List<Packet> queue = new ArrayList<>();
    List<Integer> lostPerSlot = new ArrayList<>(), sentPerSlot = new ArrayList<>(), sawPerSlot = new ArrayList<>();
    List<Packet> arrivedAll = new ArrayList<>(), lostAll = new ArrayList<>(), leftAll = new ArrayList<>();
    List<Integer> delays = new ArrayList<>();
    List<Experiment> begun = new ArrayList<>();
    List<Experiment> active = new ArrayList<>();
    int rejected = 0, aborted = 0;
    List<Integer> requests = new ArrayList<>();
    int chance = 0, x = 0;
    long[] pairs = new long[4], triples = new long[8];
    int[] most = {9999, 9999, 9999, 9999};

    // the chain
    List<Integer> lossyStates = new ArrayList<>();
    int[][] weights = new int[5][5];

    int type(int letter) {
        if (letter < 0 || letter > 255) return BAD;
        if (text.length() == 200) return FULL;
        text += (char) letter;
        return text.length();
    }

    int clear() {
        int length = text.length();
        text = "";
        return length;
    }

    // ---- reading a text

    private int at;
    private Model reading;

    private int skip() {
        while (at < text.length() && text.charAt(at) == ' ') at++;
        return at;
    }

    private boolean digit(int index) {
        return index < text.length() && text.charAt(index) >= '0' && text.charAt(index) <= '9';
    }

    private boolean letter(int index) {
        return index < text.length() && text.charAt(index) >= 'a' && text.charAt(index) <= 'z';
    }

    private String word() throws Wrong {
        int start = skip();
        while (letter(at)) at++;
        if (start == at) throw new Wrong(start);
        return text.substring(start, at);
    }

    private int number(int least, int greatest) throws Wrong {
        int start = skip();
        while (digit(at)) at++;
        String digits = text.substring(start, at);
        if (digits.isEmpty() || digits.length() > 2 || digits.length() == 2 && digits.charAt(0) == '0') throw new Wrong(start);
        int value = Integer.parseInt(digits);
        if (value < least || value > greatest) throw new Wrong(start);
        return value;
    }

    private void sign(char c) throws Wrong {
        if (skip() >= text.length() || text.charAt(at) != c) throw new Wrong(at);
        at++;
    }

    private boolean comes(char c) {
        return skip() < text.length() && text.charAt(at) == c;
    }

    private List<Integer> terms(boolean isPlan, int depth) throws Wrong {
        List<Integer> terms = new ArrayList<>();
        do {
            if (comes('(')) {
                if (depth == 4) throw new Wrong(at);
                at++;
                List<Integer> inner = terms(isPlan, depth + 1);
                sign(')');
                int start = skip();
                int times = number(1, 9);
                if (terms.size() + times * inner.size() > 400) throw new Wrong(start);
                for (int i = 0; i < times; i++) terms.addAll(inner);
            } else {
                int start = skip();
                int value = number(0, 20);
                if (isPlan && value != 0 && value != 2 && value != 3) throw new Wrong(start);
                if (terms.size() + 1 > 400) throw new Wrong(start);
                terms.add(value);
            }
        } while (comes('(') || digit(skip()));
        return terms;
    }

    private int items() throws Wrong {
        int items = 0;
        String before = "";
        at = 0;
        while (skip() < text.length()) {
            int start = at;
            String word = word();
            if (!List.of("room", "rate", "mark", "budget", "plan", "cross").contains(word)) throw new Wrong(start);
            if (word.equals("cross") ? reading.sources.size() == 4 : before.contains(word)) throw new Wrong(start);
            before += word + " ";
            switch (word) {
                case "room": reading.capacity = number(1, 40); break;
                case "rate": reading.rate = number(1, 9); break;
                case "mark": reading.mark = number(0, 40); break;
                case "budget": reading.budgetN = number(0, 20); reading.budgetW = number(1, 16); break;
                case "plan": reading.plan = terms(true, 0); break;
                default: reading.sources.add(terms(false, 0));
            }
            sign(';');
            items++;
        }
        return items;
    }

    /** What path() answers; -1000 and the new path in reading if it is not an error. */
    private int read() {
        reading = new Model();
        try {
            return items();
        } catch (Wrong wrong) {
            return -10 - wrong.position;
        }
    }

    /** The model after path(), which is another one if the text is right. */
    Model afterPath(int[] answer) {
        answer[0] = read();
        if (answer[0] < 0) return this;
        reading.lossyStates = lossyStates;
        reading.weights = weights;
        return reading;
    }

    int row(int source, int slot) {
        if (slot < 0 || slot > 9999 || source < 0 || source > 4) return BAD;
        List<Integer> row = source == 4 ? plan : source < sources.size() ? sources.get(source) : null;
        return row == null ? BAD : row.get(slot % row.size());
    }

    // ---- slots

    int steps(int n) {
        if (n < 1 || n > 32) return BAD;
        if (passed + n > 2000) return FULL;
        int lossy = 0;
        for (int i = 0; i < n; i++) {
            slotPasses();
            if (lostPerSlot.get(passed - 1) > 0) lossy++;
        }
        return lossy;
    }

    private boolean overBudget(Experiment added, int now) {
        for (int from = Math.max(0, now - 20); from <= now + 5; from++) {
            int sum = 0;
            for (int slot = from; slot < from + budgetW; slot++) {
                if (slot < passed) sum += sentPerSlot.get(slot);
                else for (Experiment e : active) if (e.sendsIn(slot)) sum++;
                if (added.sendsIn(slot)) sum++;
            }
            if (sum > budgetN) return true;
        }
        return false;
    }

    private void begins(int kind) {
        Experiment e = new Experiment(kind, passed);
        if (overBudget(e, passed)) {
            rejected++;
            return;
        }
        active.add(e);
        begun.add(e);
    }

    private boolean arrives(int sender) {
        Packet p = new Packet(sender, passed);
        arrivedAll.add(p);
        if (queue.size() >= capacity) {
            lostAll.add(p);
            return false;
        }
        queue.add(p);
        return true;
    }

    private void slotPasses() {
        if (plan != null && plan.get(passed % plan.size()) > 0) begins(plan.get(passed % plan.size()));
        x = (int) (69069L * x + 1L);
        long unsigned = x & 0xffffffffL;
        if (unsigned / 268435456L < chance) begins(unsigned / 134217728L % 2 == 1 ? 3 : 2);
        for (int kind : requests) begins(kind);
        requests.clear();
        int lostBefore = lostAll.size();
        for (int s = 0; s < sources.size(); s++) {
            for (int i = row(s, passed); i > 0; i--) arrives(s);
        }
        int saw = 0;
        for (Experiment e : active) {
            boolean full = queue.size() >= mark;
            int bit = !arrives(4) || full ? 1 : 0;
            e.saw.add(bit);
            saw += bit;
        }
        sentPerSlot.add(active.size());
        sawPerSlot.add(saw);
        lostPerSlot.add(lostAll.size() - lostBefore);
        for (int i = 0; i < rate && !queue.isEmpty(); i++) {
            Packet p = queue.remove(0);
            leftAll.add(p);
            if (p.sender == 4) delays.add(passed - p.slot);
        }
        List<Experiment> still = new ArrayList<>();
        for (Experiment e : active) {
            if (e.saw.size() < e.kind) still.add(e);
            else if (e.kind == 2) pairs[e.bits()]++;
            else triples[e.bits()]++;
        }
        active = still;
        passed++;
    }

    int asks(int kind) {
        if (kind != 2 && kind != 3) return BAD;
        if (requests.size() == 4) return FULL;
        requests.add(kind);
        return requests.size();
    }

    int draws(int newChance, int newX) {
        if (newChance < 0 || newChance > 16) return BAD;
        int previous = chance;
        chance = newChance;
        x = newX;
        return previous;
    }

    int breaks(int k) {
        if (k < 0 || k >= active.size()) return BAD;
        aborted++;
        return active.remove(k).saw.size();
    }

    // ---- records

    private boolean isLossy(int slot) {
        return lostPerSlot.get(slot) > 0;
    }

    /** Each episode as its first and last slot. */
    private List<int[]> episodes() {
        List<int[]> all = new ArrayList<>();
        for (int slot = 0; slot < passed; slot++) {
            if (!isLossy(slot)) continue;
            if (slot > 0 && isLossy(slot - 1)) all.get(all.size() - 1)[1] = slot;
            else all.add(new int[] {slot, slot});
        }
        return all;
    }

    int lossy(int slot) {
        if (slot < 0 || slot > 1999) return BAD;
        return slot >= passed ? NONE : isLossy(slot) ? 1 : 0;
    }

    private List<Integer> perSlot(int what) {
        return what == 0 ? sentPerSlot : what == 1 ? sawPerSlot : lostPerSlot;
    }

    int slot(int slot, int what) {
        if (slot < 0 || slot > 1999 || what < 0 || what > 2) return BAD;
        return slot >= passed ? NONE : perSlot(what).get(slot);
    }

    int episode(int k, int what) {
        List<int[]> all = episodes();
        if (k < 0 || k >= all.size() || what < 0 || what > 5) return BAD;
        int first = all.get(k)[0], last = all.get(k)[1];
        if (what == 0) return first;
        if (what == 1) return last - first + 1;
        if (what == 3) return last + 1 < passed ? 1 : 0;
        int sum = 0;
        for (int slot = first; slot <= last; slot++) sum += perSlot(what == 2 ? 2 : what == 4 ? 0 : 1).get(slot);
        return sum;
    }

    int packets(int source, int what) {
        if (source < 0 || source > 4 || source < 4 && source >= sources.size() || what < 0 || what > 3) return BAD;
        List<Packet> some = what == 0 ? arrivedAll : what == 1 ? lostAll : what == 2 ? leftAll : queue;
        int sum = 0;
        for (Packet p : some) if (p.sender == source) sum++;
        return sum;
    }

    int delay(int what) {
        if (what < 0 || what > 2) return BAD;
        int sum = 0, greatest = 0;
        for (int d : delays) {
            sum += d;
            greatest = Math.max(greatest, d);
        }
        return what == 0 ? delays.size() : what == 1 ? sum : greatest;
    }

    int under(int k, int what) {
        if (k < 0 || k >= active.size() || what < 0 || what > 2) return BAD;
        Experiment e = active.get(k);
        return what == 0 ? e.kind : what == 1 ? e.begin : e.bits();
    }

    // ---- estimates

    private static boolean patternExists(int kind, int bits) {
        return kind == 2 && bits >= 0 && bits <= 3 || kind == 3 && bits >= 0 && bits <= 7;
    }

    long pattern(int kind, int bits) {
        if (!patternExists(kind, bits)) return BAD;
        return kind == 2 ? pairs[bits] : triples[bits];
    }

    long forget() {
        long sum = 0;
        for (long p : pairs) sum += p;
        for (long t : triples) sum += t;
        pairs = new long[4];
        triples = new long[8];
        return sum;
    }

    int trust(int test, int tolerance) {
        if (test < 0 || test > 3 || tolerance < 0 || tolerance > 9999) return BAD;
        int previous = most[test];
        most[test] = tolerance;
        return previous;
    }

    int agrees(int test) {
        if (test < 0 || test > 3) return BAD;
        long number = test == 0 ? Math.abs(pairs[0b01] - pairs[0b10])
                : test == 1 ? triples[0b010] + triples[0b101]
                : test == 2 ? Math.abs(triples[0b001] - triples[0b100])
                : Math.abs(triples[0b011] - triples[0b110]);
        return number <= most[test] ? 1 : 0;
    }

    private static BigInteger big(long n) {
        return BigInteger.valueOf(n);
    }

    /** Numerator and denominator of an estimate for these frequencies of the patterns. */
    private static BigInteger[] formula(int which, BigInteger[] two, BigInteger[] three) {
        BigInteger f = BigInteger.ZERO, a = BigInteger.ZERO, r = BigInteger.ZERO, s = BigInteger.ZERO;
        for (int kind = 2; kind <= 3; kind++) {
            for (int bits = 0; bits < (kind == 2 ? 4 : 8); bits++) {
                BigInteger n = kind == 2 ? two[bits] : three[bits];
                int firstTwo = kind == 2 ? bits : bits / 2;
                a = a.add(n);
                if (firstTwo == 0b10 || firstTwo == 0b11) f = f.add(n);
                if (firstTwo != 0b00) r = r.add(n);
                if (firstTwo == 0b01 || firstTwo == 0b10) s = s.add(n);
            }
        }
        BigInteger u = three[0b011].add(three[0b110]), v = three[0b001].add(three[0b100]);
        BigInteger twice = BigInteger.TWO;
        if (which == 0) return new BigInteger[] {f, a};
        if (which == 1) return new BigInteger[] {twice.multiply(r).subtract(s), s};
        return new BigInteger[] {twice.multiply(v).multiply(r.subtract(s)).add(u.multiply(s)), u.multiply(s)};
    }

    private static long part(BigInteger[] fraction, int what) {
        BigInteger common = fraction[0].gcd(fraction[1]);
        return fraction[what].divide(common).longValueExact();
    }

    private static BigInteger[] bigs(long[] numbers) {
        BigInteger[] all = new BigInteger[numbers.length];
        for (int i = 0; i < all.length; i++) all[i] = big(numbers[i]);
        return all;
    }

    long estimate(int which, int what) {
        if (which < 0 || which > 2 || what < 0 || what > 1) return BAD;
        BigInteger[] fraction = formula(which, bigs(pairs), bigs(triples));
        if (fraction[1].signum() == 0) return FEW;
        for (int test = 0; test < 4; test++) if (agrees(test) == 0) return UNLIKE;
        return part(fraction, what);
    }

    long truth(int which, int what) {
        if (which < 0 || which > 1 || what < 0 || what > 1) return BAD;
        int bottom = which == 0 ? passed : episodes().size();
        if (bottom == 0) return FEW;
        return part(new BigInteger[] {big(lossySlots()), big(bottom)}, what);
    }

    private int lossySlots() {
        int sum = 0;
        for (int slot = 0; slot < passed; slot++) if (isLossy(slot)) sum++;
        return sum;
    }

    // ---- chains

    int state(int isLossy) {
        if (isLossy != 0 && isLossy != 1) return BAD;
        if (lossyStates.size() == 5) return FULL;
        lossyStates.add(isLossy);
        return lossyStates.size() - 1;
    }

    private boolean exists(int state) {
        return state >= 0 && state < lossyStates.size();
    }

    int weight(int from, int to, int weight) {
        if (!exists(from) || !exists(to) || weight < 0 || weight > 12) return BAD;
        int previous = weights[from][to];
        weights[from][to] = weight;
        return previous;
    }

    int empty() {
        int states = lossyStates.size();
        lossyStates = new ArrayList<>();
        weights = new int[5][5];
        return states;
    }

    private boolean sound() {
        int n = lossyStates.size();
        if (n == 0) return false;
        boolean[][] reach = new boolean[n][n];
        for (int i = 0; i < n; i++) {
            int sum = 0;
            for (int j = 0; j < n; j++) {
                sum += weights[i][j];
                reach[i][j] = weights[i][j] > 0;
            }
            if (sum != 12) return false;
        }
        for (int k = 0; k < n; k++) {
            for (int i = 0; i < n; i++) {
                for (int j = 0; j < n; j++) reach[i][j] |= reach[i][k] && reach[k][j];
            }
        }
        for (int i = 0; i < n; i++) {
            for (int j = 0; j < n; j++) if (i != j && !reach[i][j]) return false;
        }
        return true;
    }

    /** The shares by counting: each state's weight is the sum over all trees that lead to it. */
    private BigInteger[] trees() {
        int n = lossyStates.size();
        BigInteger[] sums = new BigInteger[n];
        for (int root = 0; root < n; root++) sums[root] = treesTo(root, new int[n], 0);
        return sums;
    }

    private BigInteger treesTo(int root, int[] next, int state) {
        int n = lossyStates.size();
        if (state == n) {
            BigInteger product = BigInteger.ONE;
            for (int i = 0; i < n; i++) {
                int end = i;
                for (int step = 0; step < n && end != root; step++) end = next[end];
                if (end != root) return BigInteger.ZERO;
                if (i != root) product = product.multiply(big(weights[i][next[i]]));
            }
            return product;
        }
        if (state == root) return treesTo(root, next, state + 1);
        BigInteger sum = BigInteger.ZERO;
        for (int to = 0; to < n; to++) {
            if (to == state || weights[state][to] == 0) continue;
            next[state] = to;
            sum = sum.add(treesTo(root, next, state + 1));
        }
        return sum;
    }

    /** The shares over their smallest common denominator, which stands behind them. */
    private BigInteger[] shares() {
        BigInteger[] sums = trees();
        BigInteger all = BigInteger.ZERO, denominator = BigInteger.ONE;
        for (BigInteger sum : sums) all = all.add(sum);
        for (BigInteger sum : sums) {
            BigInteger own = all.divide(all.gcd(sum));
            denominator = denominator.multiply(own).divide(denominator.gcd(own));
        }
        BigInteger[] shares = new BigInteger[sums.length + 1];
        for (int i = 0; i < sums.length; i++) shares[i] = sums[i].multiply(denominator).divide(all);
        shares[sums.length] = denominator;
        return shares;
    }

    long share(int state, int what) {
        if (!exists(state) || what < 0 || what > 1) return BAD;
        if (!sound()) return STATE;
        BigInteger[] shares = shares();
        return part(new BigInteger[] {shares[state], shares[lossyStates.size()]}, what);
    }

    /** The probability of a pattern, times 144 times the shares' denominator. */
    private BigInteger ways(int kind, int bits) {
        int n = lossyStates.size();
        BigInteger[] shares = shares();
        BigInteger sum = BigInteger.ZERO;
        for (int a = 0; a < n; a++) {
            for (int b = 0; b < n; b++) {
                for (int c = 0; c < n; c++) {
                    int seen = 4 * lossyStates.get(a) + 2 * lossyStates.get(b) + lossyStates.get(c);
                    if ((kind == 2 ? seen / 2 : seen) != bits) continue;
                    sum = sum.add(shares[a].multiply(big((long) weights[a][b] * weights[b][c])));
                }
            }
        }
        return sum;
    }

    long chance(int kind, int bits, int what) {
        if (!patternExists(kind, bits) || what < 0 || what > 1) return BAD;
        if (!sound()) return STATE;
        return part(new BigInteger[] {ways(kind, bits), shares()[lossyStates.size()].multiply(big(144))}, what);
    }

    long expected(int which, int what) {
        if (which < 0 || which > 2 || what < 0 || what > 1) return BAD;
        if (!sound()) return STATE;
        BigInteger[] two = new BigInteger[4], three = new BigInteger[8];
        for (int bits = 0; bits < 4; bits++) two[bits] = ways(2, bits);
        for (int bits = 0; bits < 8; bits++) three[bits] = ways(3, bits);
        BigInteger[] fraction = formula(which, two, three);
        return fraction[1].signum() == 0 ? FEW : part(fraction, what);
    }

    long lasts(int n, int what) {
        if (n < 1 || n > 40 || what < 0 || what > 1) return BAD;
        if (!sound()) return STATE;
        int states = lossyStates.size();
        BigInteger[] shares = shares();
        BigInteger[] in = new BigInteger[states];
        BigInteger t = BigInteger.ZERO;
        for (int j = 0; j < states; j++) {
            in[j] = BigInteger.ZERO;
            if (lossyStates.get(j) == 0) continue;
            for (int i = 0; i < states; i++) {
                if (lossyStates.get(i) == 0) in[j] = in[j].add(shares[i].multiply(big(weights[i][j])));
            }
            t = t.add(in[j]);
        }
        if (t.signum() == 0) return FEW;
        BigInteger bottom = t.multiply(big(12).pow(n - 1));
        if (bottom.compareTo(big(Long.MAX_VALUE)) > 0) return OVER;
        for (int step = 1; step < n; step++) {
            BigInteger[] then = new BigInteger[states];
            for (int j = 0; j < states; j++) {
                then[j] = BigInteger.ZERO;
                for (int i = 0; i < states; i++) {
                    if (lossyStates.get(j) == 1) then[j] = then[j].add(in[i].multiply(big(weights[i][j])));
                }
            }
            in = then;
        }
        BigInteger top = BigInteger.ZERO;
        for (BigInteger b : in) top = top.add(b);
        return part(new BigInteger[] {top, bottom}, what);
    }

    // ---- best probes, predictions, counts

    /** The fewest experiments that begin in slot s or later and see all episodes from e on. */
    private int fewest(List<int[]> all, int width, int s, int e, Map<Integer, Integer> known) {
        if (e == all.size()) return 0;
        if (s > all.get(e)[1]) return 1000000;
        int key = s * 2000 + e;
        Integer before = known.get(key);
        if (before != null) return before;
        int skip = fewest(all, width, s + 1, e, known);
        int take = 1 + fewest(all, width, s + 1, next(all, width, s, e), known);
        known.put(key, Math.min(skip, take));
        return Math.min(skip, take);
    }

    /** The first episode, from e on, that an experiment from slot s on does not see. */
    private static int next(List<int[]> all, int width, int s, int e) {
        int next = e;
        while (next < all.size() && all.get(next)[0] <= s + width - 1 && all.get(next)[1] >= s) next++;
        return next;
    }

    int stab(int width, int k) {
        if (width < 1 || width > 4 || k < -1) return BAD;
        List<int[]> all = episodes();
        Map<Integer, Integer> known = new HashMap<>();
        int left = fewest(all, width, 0, 0, known);
        if (k == -1) return left;
        int index = 0, e = 0;
        for (int s = 0; left > 0; s++) {
            if (fewest(all, width, s + 1, e, known) == left) continue;
            if (index == k) return s;
            index++;
            left--;
            e = next(all, width, s, e);
        }
        return NONE;
    }

    int ahead(int n, int more) {
        if (n < 1 || n > 64 || more < 0 || more > 20) return BAD;
        return lostWith(n, more, capacity);
    }

    private int lostWith(int n, int more, int room) {
        int length = queue.size(), lost = 0;
        for (int slot = passed; slot < passed + n; slot++) {
            int arriving = more;
            for (int s = 0; s < sources.size(); s++) arriving += sources.get(s).get(slot % sources.get(s).size());
            for (Experiment e : active) if (e.sendsIn(slot)) arriving++;
            for (int i = 0; i < arriving; i++) {
                if (length >= room) lost++;
                else length++;
            }
            for (int i = 0; i < rate && length > 0; i++) length--;
        }
        return lost;
    }

    int enough(int n) {
        if (n < 1 || n > 64) return BAD;
        for (int room = 1; room <= 40; room++) if (lostWith(n, 0, room) == 0) return room;
        return NONE;
    }

    int count(int what) {
        switch (what) {
            case 0: return passed;
            case 1: return queue.size();
            case 2: return lostAll.size();
            case 3: return lossySlots();
            case 4: return episodes().size();
            case 5: return begun.size();
            case 6: return rejected;
            case 7: return aborted;
            case 8: return active.size();
            case 9: return requests.size();
            case 10: return sources.size();
            case 11: return plan == null ? 0 : plan.size();
            case 12: return lossyStates.size();
            case 13: return text.length();
            default: return BAD;
        }
    }
}
