import java.util.Arrays;

/**
 * Loss-episode measurement on a network path by pairs and triples of probes:
 * a queue that is simulated slot by slot, the exact record of its loss
 * episodes, and the estimates that the probes give of them.
 *
 * All arrays are made in constructors, so that no call makes an object.
 */
public final class EpisodeProbes {
    public static final int BAD = -1, FULL = -2, STATE = -3, FEW = -4, UNLIKE = -5, OVER = -6, NONE = -9;

    private static final int MOST_SLOTS = 2000;
    private static final int MOST_CAPACITY = 40;
    private static final int MOST_SOURCES = 4;
    /** Probes stand behind the four sources, and so does the plan among the rows. */
    private static final int PROBES = MOST_SOURCES;
    private static final int PLAN = MOST_SOURCES;
    private static final int ROWS = MOST_SOURCES + 1;
    private static final int MOST_LENGTH = 400;
    private static final int PAIR = 2, TRIPLE = 3;
    private static final int TESTS = 4, MOST_TOLERANCE = 9999;
    /** What the weights from each state of a sound chain sum to. */
    private static final int WHOLE = 12;
    private static final long GREATEST_LONG = 9223372036854775807L;

    private final Text text;
    private final Tokens tokens;
    private final Reader reader;
    private Route route;
    private Route draft;
    private final Line line;
    private final Experiments experiments;
    private final Records records;
    private final Patterns counted;
    private final int[] tolerances;
    private final Chain chain;
    private final Forecast forecast;

    public EpisodeProbes() {
        text = new Text();
        tokens = new Tokens();
        reader = new Reader();
        route = new Route();
        draft = new Route();
        line = new Line();
        experiments = new Experiments();
        records = new Records();
        counted = new Patterns();
        tolerances = new int[TESTS];
        Arrays.fill(tolerances, MOST_TOLERANCE);
        chain = new Chain();
        forecast = new Forecast();
    }

    // ---- the path

    public int type(int letter) {
        if (letter < 0 || letter > 255) return BAD;
        return text.append(letter);
    }

    public int clear() {
        return text.drop();
    }

    public int path() {
        tokens.split(text);
        int items = reader.readItems(tokens, draft);
        if (items < 0) return items;
        Route former = route;
        route = draft;
        draft = former;
        text.drop();
        restart();
        return items;
    }

    private void restart() {
        line.restart();
        experiments.restart();
        records.restart();
        counted.restart();
        Arrays.fill(tolerances, MOST_TOLERANCE);
    }

    public int row(int source, int slot) {
        if (!route.hasRow(source) || slot < 0 || slot > 9999) return BAD;
        return route.numberIn(source, slot);
    }

    // ---- slots

    public int steps(int n) {
        if (n < 1 || n > 32) return BAD;
        if (n > MOST_SLOTS - records.passed()) return FULL;
        int before = records.lossySlots();
        for (int i = 0; i < n; i++) passSlot();
        return records.lossySlots() - before;
    }

    private void passSlot() {
        int now = records.passed();
        experiments.beginIn(now, route);
        sendPackets(now);
        sendProbes(now);
        line.serve(route.rate(), now);
        experiments.complete(now, counted);
        records.endSlot();
    }

    private void sendPackets(int now) {
        for (int source = 0; source < MOST_SOURCES; source++) {
            int packets = route.numberIn(source, now);
            for (int i = 0; i < packets; i++) {
                if (!line.offer(source, now, route.capacity())) records.noteLoss();
            }
        }
    }

    private void sendProbes(int now) {
        int probes = experiments.active();
        for (int k = 0; k < probes; k++) {
            boolean marked = line.waiting() >= route.mark();
            boolean entered = line.offer(PROBES, now, route.capacity());
            if (!entered) records.noteLoss();
            int bit = marked || !entered ? 1 : 0;
            if (bit == 1) records.noteSight();
            experiments.see(k, bit);
        }
    }

    public int asks(int kind) {
        if (kind != PAIR && kind != TRIPLE) return BAD;
        return experiments.request(kind);
    }

    public int draws(int chance, int x) {
        if (chance < 0 || chance > 16) return BAD;
        return experiments.setDraws(chance, x);
    }

    public int breaks(int k) {
        if (!experiments.isActive(k)) return BAD;
        return experiments.abort(k, records.passed());
    }

    // ---- records

    public int lossy(int slot) {
        if (slot < 0 || slot >= MOST_SLOTS) return BAD;
        if (slot >= records.passed()) return NONE;
        return records.lostIn(slot) > 0 ? 1 : 0;
    }

    public int slot(int slot, int what) {
        if (slot < 0 || slot >= MOST_SLOTS || what < 0 || what > 2) return BAD;
        if (slot >= records.passed()) return NONE;
        switch (what) {
            case 0: return experiments.probesIn(slot);
            case 1: return records.sightsIn(slot);
            default: return records.lostIn(slot);
        }
    }

    public int episode(int k, int what) {
        if (k < 0 || k >= records.episodes()) return BAD;
        int first = records.firstOf(k), last = records.lastOf(k);
        switch (what) {
            case 0: return first;
            case 1: return last - first + 1;
            case 2: return records.lostWithin(first, last);
            case 3: return last < records.passed() - 1 ? 1 : 0;
            case 4: return experiments.probesWithin(first, last);
            case 5: return records.sightsWithin(first, last);
            default: return BAD;
        }
    }

    public int packets(int source, int what) {
        if (source != PROBES && !route.hasSource(source)) return BAD;
        switch (what) {
            case 0: return line.arrivedFrom(source);
            case 1: return line.lostFrom(source);
            case 2: return line.leftFrom(source);
            case 3: return line.waitingFrom(source);
            default: return BAD;
        }
    }

    public int delay(int what) {
        switch (what) {
            case 0: return line.leftFrom(PROBES);
            case 1: return line.delays();
            case 2: return line.greatestDelay();
            default: return BAD;
        }
    }

    public int under(int k, int what) {
        if (!experiments.isActive(k)) return BAD;
        switch (what) {
            case 0: return experiments.kindOf(k);
            case 1: return experiments.beginOf(k);
            case 2: return experiments.bitsOf(k);
            default: return BAD;
        }
    }

    // ---- estimates

    public long pattern(int kind, int pattern) {
        if (!isPattern(kind, pattern)) return BAD;
        return counted.numberOf(kind, pattern);
    }

    private static boolean isPattern(int kind, int bits) {
        if (kind != PAIR && kind != TRIPLE) return false;
        return bits >= 0 && bits < 1 << kind;
    }

    public long forget() {
        long sum = counted.sum();
        counted.restart();
        return sum;
    }

    public int trust(int test, int most) {
        if (!isTest(test) || most < 0 || most > MOST_TOLERANCE) return BAD;
        int previous = tolerances[test];
        tolerances[test] = most;
        return previous;
    }

    private static boolean isTest(int test) {
        return test >= 0 && test < TESTS;
    }

    public int agrees(int test) {
        if (!isTest(test)) return BAD;
        return counted.disagreement(test) <= tolerances[test] ? 1 : 0;
    }

    public long estimate(int which, int what) {
        if (which < 0 || which > 2 || !isPart(what)) return BAD;
        long bottom = counted.denominator(which);
        if (bottom == 0) return FEW;
        for (int test = 0; test < TESTS; test++) {
            if (agrees(test) != 1) return UNLIKE;
        }
        return partOf(counted.numerator(which), bottom, what);
    }

    public long truth(int which, int what) {
        if (which < 0 || which > 1 || !isPart(what)) return BAD;
        int bottom = which == 0 ? records.passed() : records.episodes();
        if (bottom == 0) return FEW;
        return partOf(records.lossySlots(), bottom, what);
    }

    /** The sum of some numbers of an array; those before its begin and behind its end are 0. */
    private static int sumOf(int[] numbers, int first, int last) {
        int sum = 0;
        for (int i = first < 0 ? 0 : first; i <= last && i < numbers.length; i++) sum += numbers[i];
        return sum;
    }

    private static boolean isPart(int what) {
        return what == 0 || what == 1;
    }

    /** The numerator (0) or denominator (1) of top / bottom in lowest terms. */
    private static long partOf(long top, long bottom, int what) {
        long common = commonDivisor(top, bottom);
        if (common == 0) return 0;
        return (what == 0 ? top : bottom) / common;
    }

    private static long commonDivisor(long a, long b) {
        long large = a, small = b;
        // Euclid needs fewer than 100 rounds for two longs.
        for (int round = 0; round < 1000 && small != 0; round++) {
            long rest = large % small;
            large = small;
            small = rest;
        }
        return large;
    }

    // ---- chains

    public int state(int lossy) {
        if (lossy != 0 && lossy != 1) return BAD;
        return chain.addState(lossy);
    }

    public int weight(int from, int to, int weight) {
        if (!chain.hasState(from) || !chain.hasState(to) || weight < 0 || weight > WHOLE) return BAD;
        return chain.setWeight(from, to, weight);
    }

    public int empty() {
        return chain.dropStates();
    }

    public long share(int state, int what) {
        if (!chain.hasState(state) || !isPart(what)) return BAD;
        if (!chain.isSound()) return STATE;
        chain.findShares();
        return partOf(chain.shareOf(state), chain.allShares(), what);
    }

    public long chance(int kind, int pattern, int what) {
        if (!isPattern(kind, pattern) || !isPart(what)) return BAD;
        if (!chain.isSound()) return STATE;
        chain.findShares();
        long all = chain.allShares() * (kind == PAIR ? WHOLE : WHOLE * WHOLE);
        return partOf(chain.waysOf(kind, pattern), all, what);
    }

    public long expected(int which, int what) {
        if (which < 0 || which > 2 || !isPart(what)) return BAD;
        if (!chain.isSound()) return STATE;
        chain.findShares();
        Patterns due = chain.duePatterns();
        long bottom = due.denominator(which);
        if (bottom == 0) return FEW;
        return partOf(due.numerator(which), bottom, what);
    }

    public long lasts(int n, int what) {
        if (n < 1 || n > 40 || !isPart(what)) return BAD;
        if (!chain.isSound()) return STATE;
        chain.findShares();
        long bottom = chain.beginEpisode();
        if (bottom == 0) return FEW;
        for (int step = 1; step < n; step++) {
            if (bottom > GREATEST_LONG / WHOLE) return OVER;
            bottom *= WHOLE;
            chain.moveTo(1);
        }
        return partOf(chain.ways(), bottom, what);
    }

    // ---- best probes, predictions, counts

    public int stab(int width, int k) {
        if (width < 1 || width > 4 || k < -1) return BAD;
        int chosen = 0, covered = -1;
        for (int e = 0; e < records.episodes(); e++) {
            if (records.firstOf(e) <= covered) continue;
            // The last slot of the first episode not yet seen is the latest
            // choice, and no other one reaches further.
            int begin = records.lastOf(e);
            if (chosen == k) return begin;
            chosen++;
            covered = begin + width - 1;
        }
        return k == -1 ? chosen : NONE;
    }

    public int ahead(int n, int more) {
        if (n < 1 || n > Forecast.MOST || more < 0 || more > 20) return BAD;
        foresee(n, more);
        return forecast.losses(line.waiting(), route.capacity(), route.rate());
    }

    public int enough(int n) {
        if (n < 1 || n > Forecast.MOST) return BAD;
        foresee(n, 0);
        for (int capacity = 1; capacity <= MOST_CAPACITY; capacity++) {
            if (forecast.losses(line.waiting(), capacity, route.rate()) == 0) return capacity;
        }
        return NONE;
    }

    private void foresee(int n, int more) {
        forecast.restart();
        int now = records.passed();
        for (int i = 0; i < n; i++) {
            forecast.expect(route.packetsIn(now + i) + more + experiments.probesIn(now + i));
        }
    }

    public int count(int what) {
        switch (what) {
            case 0: return records.passed();
            case 1: return line.waiting();
            case 2: return line.lost();
            case 3: return records.lossySlots();
            case 4: return records.episodes();
            case 5: return experiments.begun();
            case 6: return experiments.rejected();
            case 7: return experiments.aborted();
            case 8: return experiments.active();
            case 9: return experiments.requested();
            case 10: return route.sources();
            case 11: return route.lengthOf(PLAN);
            case 12: return chain.states();
            case 13: return text.length();
            default: return BAD;
        }
    }

    /** The text that is typed. */
    private static final class Text {
        static final int MOST = 200;
        private final char[] letters;
        private int length;

        Text() {
            letters = new char[MOST];
        }

        int length() {
            return length;
        }

        int append(int letter) {
            if (length >= letters.length) return FULL;
            letters[length] = (char) letter;
            length++;
            return length;
        }

        int drop() {
            int dropped = length;
            length = 0;
            return dropped;
        }

        /** The code of a character, or -1 behind the last one. */
        int codeAt(int index) {
            return index >= 0 && index < length && index < MOST ? letters[index] : -1;
        }

        /** Whether a word stands here. */
        boolean says(String word, int start, int end) {
            if (end - start != word.length()) return false;
            for (int i = 0; i < word.length(); i++) {
                if (codeAt(start + i) != word.charAt(i)) return false;
            }
            return true;
        }
    }

    /** What a text tells of the path: its numbers, its sources and its plan. */
    private static final class Route {
        private int capacity, rate, mark, budget, window, sources;
        private final int[] numbers;
        private final int[] lengths;

        Route() {
            numbers = new int[ROWS * MOST_LENGTH];
            lengths = new int[ROWS];
            restart();
        }

        /** The rows' numbers may stay: without its length none is seen. */
        void restart() {
            capacity = 10;
            rate = 1;
            mark = 40;
            budget = 20;
            window = 1;
            sources = 0;
            Arrays.fill(lengths, 0);
        }

        int capacity() {
            return capacity;
        }

        int rate() {
            return rate;
        }

        int mark() {
            return mark;
        }

        int budget() {
            return budget;
        }

        int window() {
            return window;
        }

        int sources() {
            return sources;
        }

        /** This and the next setters refuse a negative number, which stands for none. */
        boolean setCapacity(int packets) {
            if (packets < 0) return false;
            capacity = packets;
            return true;
        }

        boolean setRate(int packets) {
            if (packets < 0) return false;
            rate = packets;
            return true;
        }

        boolean setMark(int packets) {
            if (packets < 0) return false;
            mark = packets;
            return true;
        }

        boolean setBudget(int probes) {
            if (probes < 0) return false;
            budget = probes;
            return true;
        }

        boolean setWindow(int slots) {
            if (slots < 0) return false;
            window = slots;
            return true;
        }

        void setLength(int row, int length) {
            if (row < 0 || row >= ROWS || length < 0 || length > MOST_LENGTH) return;
            lengths[row] = length;
            if (row != PLAN) sources = row + 1;
        }

        int lengthOf(int row) {
            return row >= 0 && row < ROWS ? lengths[row] : 0;
        }

        boolean hasRow(int row) {
            return lengthOf(row) > 0;
        }

        boolean hasSource(int source) {
            return source != PLAN && hasRow(source);
        }

        /** Numbers beyond the greatest length are dropped: such a row is refused at the latest where its groups end. */
        void put(int row, int index, int number) {
            if (row < 0 || row >= ROWS || index < 0 || index >= MOST_LENGTH) return;
            numbers[row * MOST_LENGTH + index] = number;
        }

        int numberAt(int row, int index) {
            if (row < 0 || row >= ROWS || index < 0 || index >= MOST_LENGTH) return 0;
            return numbers[row * MOST_LENGTH + index];
        }

        /** The number of a row in a slot; 0 if there is no such row. */
        int numberIn(int row, int slot) {
            int length = lengthOf(row);
            return length > 0 ? numberAt(row, slot % length) : 0;
        }

        int packetsIn(int slot) {
            int sum = 0;
            for (int source = 0; source < MOST_SOURCES; source++) sum += numberIn(source, slot);
            return sum;
        }
    }

    /** The tokens of a text, and the place of the one that comes next. */
    private static final class Tokens {
        static final int END = 0, WORD = 1, NUMBER = 2, LEFT = 3, RIGHT = 4, SEMICOLON = 5, OTHER = 6;
        /** As many as a text has characters, and the end. */
        static final int MOST = Text.MOST + 1;
        /** The value of a word or number that is none of the document's. */
        static final int UNKNOWN = -1;
        /** The values of words. */
        static final int ROOM = 0, RATE = 1, MARK = 2, BUDGET = 3, PLAN_WORD = 4, CROSS = 5;
        private final int[] kinds, starts, values;
        private int tokens, next;

        Tokens() {
            kinds = new int[MOST];
            starts = new int[MOST];
            values = new int[MOST];
        }

        void split(Text text) {
            tokens = 0;
            next = 0;
            int start = 0;
            for (int i = 0; i < MOST && start < text.length(); i++) {
                int end = endOf(text, start);
                if (text.codeAt(start) != ' ') add(text, start, end);
                start = end;
            }
            add(text, start, start);
        }

        /** Where the token ends that starts here. */
        private static int endOf(Text text, int start) {
            int kind = kindOf(text.codeAt(start));
            int end = start + 1;
            if (kind != WORD && kind != NUMBER) return end;
            for (int i = 0; i < MOST && kindOf(text.codeAt(end)) == kind; i++) end++;
            return end;
        }

        private static int kindOf(int code) {
            if (code < 0) return END;
            if (code >= 'a' && code <= 'z') return WORD;
            if (code >= '0' && code <= '9') return NUMBER;
            switch (code) {
                case '(': return LEFT;
                case ')': return RIGHT;
                case ';': return SEMICOLON;
                default: return OTHER;
            }
        }

        private void add(Text text, int start, int end) {
            if (tokens >= MOST) return;
            int kind = kindOf(text.codeAt(start));
            kinds[tokens] = kind;
            starts[tokens] = start;
            values[tokens] = UNKNOWN;
            if (kind == NUMBER) values[tokens] = numberOf(text, start, end);
            if (kind == WORD) values[tokens] = wordOf(text, start, end);
            tokens++;
        }

        private static int numberOf(Text text, int start, int end) {
            int first = text.codeAt(start) - '0';
            if (end - start == 1) return first;
            if (end - start > 2 || first == 0) return UNKNOWN;
            return 10 * first + text.codeAt(start + 1) - '0';
        }

        private static int wordOf(Text text, int start, int end) {
            if (text.says("room", start, end)) return ROOM;
            if (text.says("rate", start, end)) return RATE;
            if (text.says("mark", start, end)) return MARK;
            if (text.says("budget", start, end)) return BUDGET;
            if (text.says("plan", start, end)) return PLAN_WORD;
            if (text.says("cross", start, end)) return CROSS;
            return UNKNOWN;
        }

        int kind() {
            return next >= 0 && next < MOST ? kinds[next] : END;
        }

        int start() {
            return next >= 0 && next < MOST ? starts[next] : 0;
        }

        int value() {
            return next >= 0 && next < MOST ? values[next] : UNKNOWN;
        }

        /** The end stays: it is a token that can't be taken. */
        void take() {
            if (next < tokens - 1) next++;
        }
    }

    /**
     * Reads a route from tokens. A token is looked at before it is taken, so
     * that in case of an error the next one is the one that is not allowed.
     */
    private static final class Reader {
        private static final int MOST_DEPTH = 4;
        private static final int MOST_TIMES = 9;
        private static final int NO_NUMBER = -1;
        /** How often each word stood. */
        private final int[] stood;
        private int depth;
        /** The lengths of the row so far and of the groups that are open. */
        private final int[] lengths;

        Reader() {
            stood = new int[Tokens.CROSS + 1];
            lengths = new int[MOST_DEPTH + 1];
        }

        /** The number of items, or -10 minus the error position. */
        int readItems(Tokens tokens, Route into) {
            into.restart();
            Arrays.fill(stood, 0);
            for (int items = 0; items < Tokens.MOST; items++) {
                if (tokens.kind() == Tokens.END) return items;
                if (!readItem(tokens, into)) break;
            }
            return -10 - tokens.start();
        }

        private boolean readItem(Tokens tokens, Route into) {
            if (tokens.kind() != Tokens.WORD) return false;
            int word = tokens.value();
            if (word < 0 || word >= stood.length) return false;
            if (stood[word] >= (word == Tokens.CROSS ? MOST_SOURCES : 1)) return false;
            stood[word]++;
            tokens.take();
            if (word == Tokens.PLAN_WORD) return readRow(tokens, into, PLAN);
            if (word == Tokens.CROSS) return readRow(tokens, into, into.sources());
            return readSetting(tokens, into, word) && takeSemicolon(tokens);
        }

        private static boolean readSetting(Tokens tokens, Route into, int word) {
            switch (word) {
                case Tokens.ROOM: return into.setCapacity(takeNumber(tokens, 1, MOST_CAPACITY));
                case Tokens.RATE: return into.setRate(takeNumber(tokens, 1, 9));
                case Tokens.MARK: return into.setMark(takeNumber(tokens, 0, MOST_CAPACITY));
                case Tokens.BUDGET: return into.setBudget(takeNumber(tokens, 0, 20)) && into.setWindow(takeNumber(tokens, 1, 16));
                default: return false;
            }
        }

        private static int takeNumber(Tokens tokens, int least, int most) {
            int number = tokens.value();
            if (tokens.kind() != Tokens.NUMBER || number < least || number > most) return NO_NUMBER;
            tokens.take();
            return number;
        }

        private static boolean takeSemicolon(Tokens tokens) {
            if (tokens.kind() != Tokens.SEMICOLON) return false;
            tokens.take();
            return true;
        }

        private boolean readRow(Tokens tokens, Route into, int row) {
            depth = 0;
            lengths[0] = 0;
            boolean allowed = true;
            for (int i = 0; i < Tokens.MOST && allowed; i++) {
                switch (tokens.kind()) {
                    case Tokens.NUMBER: allowed = readNumber(tokens, into, row); break;
                    case Tokens.LEFT: allowed = openGroup(tokens); break;
                    case Tokens.RIGHT: allowed = closeGroup(tokens, into, row); break;
                    case Tokens.SEMICOLON: return endRow(tokens, into, row);
                    default: allowed = false;
                }
            }
            return false;
        }

        private boolean readNumber(Tokens tokens, Route into, int row) {
            int number = tokens.value();
            boolean allowed = row == PLAN ? number == 0 || number == PAIR || number == TRIPLE : number >= 0 && number <= 20;
            if (!allowed || lengthAt(depth) >= MOST_LENGTH) return false;
            into.put(row, lengthBelow(depth + 1), number);
            setLength(depth, lengthAt(depth) + 1);
            tokens.take();
            return true;
        }

        private boolean openGroup(Tokens tokens) {
            if (depth >= MOST_DEPTH) return false;
            depth++;
            setLength(depth, 0);
            tokens.take();
            return true;
        }

        private boolean closeGroup(Tokens tokens, Route into, int row) {
            int length = lengthAt(depth);
            if (depth < 1 || length < 1) return false;
            tokens.take();
            int free = MOST_LENGTH - lengthAt(depth - 1);
            int times = takeNumber(tokens, 1, Math.min(free / length, MOST_TIMES));
            if (times == NO_NUMBER) return false;
            int begin = lengthBelow(depth);
            for (int i = length; i < length * times; i++) into.put(row, begin + i, into.numberAt(row, begin + i - length));
            depth--;
            setLength(depth, lengthAt(depth) + length * times);
            return true;
        }

        private boolean endRow(Tokens tokens, Route into, int row) {
            if (depth > 0 || lengthAt(0) < 1) return false;
            into.setLength(row, lengthAt(0));
            tokens.take();
            return true;
        }

        private int lengthAt(int level) {
            return level >= 0 && level < lengths.length ? lengths[level] : 0;
        }

        private void setLength(int level, int length) {
            if (level >= 0 && level < lengths.length) lengths[level] = length;
        }

        /** How many numbers stand in the levels below this one. */
        private int lengthBelow(int level) {
            return sumOf(lengths, 0, level - 1);
        }
    }

    /** The queue, with the counts of the packets of each sender. */
    private static final class Line {
        private final int[] senders, since;
        private final int[] arrived, lost, left;
        private int front, waiting, delays, greatestDelay;

        Line() {
            senders = new int[MOST_CAPACITY];
            since = new int[MOST_CAPACITY];
            arrived = new int[PROBES + 1];
            lost = new int[PROBES + 1];
            left = new int[PROBES + 1];
        }

        void restart() {
            Arrays.fill(arrived, 0);
            Arrays.fill(lost, 0);
            Arrays.fill(left, 0);
            front = 0;
            waiting = 0;
            delays = 0;
            greatestDelay = 0;
        }

        /** Whether the packet that arrives enters the queue. */
        boolean offer(int sender, int now, int capacity) {
            if (!isSender(sender)) return false;
            arrived[sender]++;
            if (waiting >= capacity || waiting >= MOST_CAPACITY) {
                lost[sender]++;
                return false;
            }
            int place = (front + waiting) % MOST_CAPACITY;
            if (place < 0 || place >= senders.length || place >= since.length) return false;
            senders[place] = sender;
            since[place] = now;
            waiting++;
            return true;
        }

        void serve(int rate, int now) {
            for (int i = 0; i < rate && waiting > 0; i++) {
                if (front < 0 || front >= senders.length || front >= since.length) return;
                noteLeaving(senders[front], now - since[front]);
                front = (front + 1) % MOST_CAPACITY;
                waiting--;
            }
        }

        private void noteLeaving(int sender, int waited) {
            if (!isSender(sender)) return;
            left[sender]++;
            if (sender != PROBES) return;
            delays += waited;
            greatestDelay = Math.max(greatestDelay, waited);
        }

        private static boolean isSender(int sender) {
            return sender >= 0 && sender <= PROBES;
        }

        int waiting() {
            return waiting;
        }

        int delays() {
            return delays;
        }

        int greatestDelay() {
            return greatestDelay;
        }

        int arrivedFrom(int sender) {
            return isSender(sender) ? arrived[sender] : 0;
        }

        int lostFrom(int sender) {
            return isSender(sender) ? lost[sender] : 0;
        }

        int leftFrom(int sender) {
            return isSender(sender) ? left[sender] : 0;
        }

        int waitingFrom(int sender) {
            return arrivedFrom(sender) - lostFrom(sender) - leftFrom(sender);
        }

        int lost() {
            int sum = 0;
            for (int sender = 0; sender <= PROBES; sender++) sum += lostFrom(sender);
            return sum;
        }
    }

    /** The experiments that are requested, drawn or active, and the budget's view of their probes. */
    private static final class Experiments {
        /** A budget lets at most 20 probes into a slot, and each active experiment sends one. */
        private static final int MOST_ACTIVE = 20;
        private static final int MOST_REQUESTS = 4;
        private final int[] kinds, begins, bits;
        private int active;
        private final int[] requests;
        private int requested;
        private int chance, drawn;
        private int begun, rejected, aborted;
        /** In each slot the probes that were sent in it, and those that active experiments are still to send. */
        private final int[] probes;

        Experiments() {
            kinds = new int[MOST_ACTIVE];
            begins = new int[MOST_ACTIVE];
            bits = new int[MOST_ACTIVE];
            requests = new int[MOST_REQUESTS];
            probes = new int[MOST_SLOTS + TRIPLE];
        }

        void restart() {
            active = 0;
            requested = 0;
            chance = 0;
            drawn = 0;
            begun = 0;
            rejected = 0;
            aborted = 0;
            Arrays.fill(probes, 0);
        }

        int active() {
            return active;
        }

        int requested() {
            return requested;
        }

        int begun() {
            return begun;
        }

        int rejected() {
            return rejected;
        }

        int aborted() {
            return aborted;
        }

        int request(int kind) {
            if (requested >= MOST_REQUESTS) return FULL;
            requests[requested] = kind;
            requested++;
            return requested;
        }

        int setDraws(int chanceNow, int x) {
            int previous = chance;
            chance = chanceNow;
            drawn = x;
            return previous;
        }

        void beginIn(int now, Route route) {
            int planned = route.numberIn(PLAN, now);
            if (planned != 0) admit(planned, now, route);
            drawn = 69069 * drawn + 1;
            if (drawn >>> 28 < chance) admit((drawn & 1 << 27) != 0 ? TRIPLE : PAIR, now, route);
            for (int i = 0; i < requested && i < requests.length; i++) admit(requests[i], now, route);
            requested = 0;
        }

        private void admit(int kind, int now, Route route) {
            addProbes(now, now + kind, 1);
            if (active >= MOST_ACTIVE || exceeds(now, route)) {
                addProbes(now, now + kind, -1);
                rejected++;
                return;
            }
            kinds[active] = kind;
            begins[active] = now;
            bits[active] = 0;
            active++;
            begun++;
        }

        private void addProbes(int from, int until, int number) {
            for (int slot = Math.max(from, 0); slot < until && slot < probes.length; slot++) probes[slot] += number;
        }

        /**
         * Whether some slots that end with this one or a later one hold more
         * probes than the budget lets. No probe is due later than two slots
         * from now, so no slots that end still later hold more.
         */
        private boolean exceeds(int now, Route route) {
            for (int last = now; last < now + TRIPLE; last++) {
                if (probesWithin(last - route.window() + 1, last) > route.budget()) return true;
            }
            return false;
        }

        /** How many probes were sent in a slot, or are still to be sent in it by active experiments. */
        int probesIn(int slot) {
            return probesWithin(slot, slot);
        }

        int probesWithin(int first, int last) {
            return sumOf(probes, first, last);
        }

        boolean isActive(int k) {
            return k >= 0 && k < active && k < MOST_ACTIVE;
        }

        void see(int k, int bit) {
            if (isActive(k)) bits[k] = 2 * bits[k] + bit;
        }

        int kindOf(int k) {
            return isActive(k) ? kinds[k] : 0;
        }

        int beginOf(int k) {
            return isActive(k) ? begins[k] : 0;
        }

        int bitsOf(int k) {
            return isActive(k) ? bits[k] : 0;
        }

        /** Aborts an experiment, and returns how many probes it has sent. */
        int abort(int k, int now) {
            int begin = beginOf(k);
            addProbes(now, begin + kindOf(k), -1);
            remove(k);
            aborted++;
            return now - begin;
        }

        private void remove(int k) {
            if (!isActive(k)) return;
            active--;
            for (int i = k; i < active; i++) {
                kinds[i] = kinds[i + 1];
                begins[i] = begins[i + 1];
                bits[i] = bits[i + 1];
            }
        }

        void complete(int now, Patterns counted) {
            for (int k = active - 1; k >= 0; k--) {
                if (beginOf(k) + kindOf(k) - 1 != now) continue;
                counted.add(kindOf(k), bitsOf(k), 1);
                remove(k);
            }
        }
    }

    /** What has happened in each slot that has passed, and the episodes. */
    private static final class Records {
        private final int[] lost, sights;
        private int passed, lossySlots, episodes;
        private final int[] firsts, ends;

        Records() {
            lost = new int[MOST_SLOTS];
            sights = new int[MOST_SLOTS];
            // Between two episodes there is a slot that is not lossy.
            firsts = new int[MOST_SLOTS / 2];
            ends = new int[MOST_SLOTS / 2];
        }

        void restart() {
            Arrays.fill(lost, 0);
            Arrays.fill(sights, 0);
            passed = 0;
            lossySlots = 0;
            episodes = 0;
        }

        int passed() {
            return passed;
        }

        int lossySlots() {
            return lossySlots;
        }

        int episodes() {
            return episodes;
        }

        void noteLoss() {
            if (isSlot(passed)) lost[passed]++;
        }

        /** A probe has seen 1. */
        void noteSight() {
            if (isSlot(passed)) sights[passed]++;
        }

        void endSlot() {
            if (!isSlot(passed)) return;
            if (lostIn(passed) > 0) noteLossySlot();
            passed++;
        }

        private void noteLossySlot() {
            lossySlots++;
            boolean goesOn = lostIn(passed - 1) > 0;
            if (!goesOn && episodes < firsts.length) {
                firsts[episodes] = passed;
                episodes++;
            }
            int current = episodes - 1;
            if (current >= 0 && current < ends.length) ends[current] = passed;
        }

        private static boolean isSlot(int slot) {
            return slot >= 0 && slot < MOST_SLOTS;
        }

        int lostIn(int slot) {
            return isSlot(slot) ? lost[slot] : 0;
        }

        int sightsIn(int slot) {
            return isSlot(slot) ? sights[slot] : 0;
        }

        int firstOf(int k) {
            return k >= 0 && k < firsts.length ? firsts[k] : 0;
        }

        int lastOf(int k) {
            return k >= 0 && k < ends.length ? ends[k] : 0;
        }

        int lostWithin(int first, int last) {
            return sumOf(lost, first, last);
        }

        int sightsWithin(int first, int last) {
            return sumOf(sights, first, last);
        }
    }

    /**
     * How often each pattern occurs, as a count or as a probability times a
     * number that is the same for all patterns (which no estimate changes with).
     */
    private static final class Patterns {
        private final long[] pairs, triples;

        Patterns() {
            pairs = new long[4];
            triples = new long[8];
        }

        void restart() {
            Arrays.fill(pairs, 0L);
            Arrays.fill(triples, 0L);
        }

        void add(int kind, int bits, long number) {
            if (kind == PAIR && bits >= 0 && bits < pairs.length) pairs[bits] += number;
            if (kind == TRIPLE && bits >= 0 && bits < triples.length) triples[bits] += number;
        }

        long numberOf(int kind, int bits) {
            if (kind == PAIR) return pair(bits);
            return kind == TRIPLE ? triple(bits) : 0;
        }

        private long pair(int bits) {
            return bits >= 0 && bits < pairs.length ? pairs[bits] : 0;
        }

        private long triple(int bits) {
            return bits >= 0 && bits < triples.length ? triples[bits] : 0;
        }

        long sum() {
            return begins(0) + begins(1) + begins(2) + begins(3);
        }

        /** How many pairs and triples have these first two bits. */
        private long begins(int bits) {
            return pair(bits) + triple(2 * bits) + triple(2 * bits + 1);
        }

        /** The number that a test compares with its tolerance. */
        long disagreement(int test) {
            switch (test) {
                case 0: return Math.abs(pair(1) - pair(2));
                case 1: return triple(2) + triple(5);
                case 2: return Math.abs(triple(1) - triple(4));
                default: return Math.abs(triple(3) - triple(6));
            }
        }

        /** The document's S. */
        private long changing() {
            return begins(1) + begins(2);
        }

        /** The document's U. */
        private long longEdges() {
            return triple(3) + triple(6);
        }

        /** The document's V. */
        private long shortEdges() {
            return triple(1) + triple(4);
        }

        long numerator(int which) {
            long seen = changing() + begins(3);
            switch (which) {
                case 0: return begins(2) + begins(3);
                case 1: return 2 * seen - changing();
                default: return 2 * shortEdges() * (seen - changing()) + longEdges() * changing();
            }
        }

        long denominator(int which) {
            switch (which) {
                case 0: return sum();
                case 1: return changing();
                default: return longEdges() * changing();
            }
        }
    }

    /** The Markov chain. */
    private static final class Chain {
        private static final int MOST_STATES = 5;
        private int states;
        private final int[] losses;
        private final int[] weights;
        /** The shares, as integers without a common divisor. */
        private final long[] shares;
        /** By state: in how many ways, weights and shares multiplied, it ends a walk. */
        private final long[] walks, further;
        private final long[] minor;
        private final Patterns due;

        Chain() {
            losses = new int[MOST_STATES];
            weights = new int[MOST_STATES * MOST_STATES];
            shares = new long[MOST_STATES];
            walks = new long[MOST_STATES];
            further = new long[MOST_STATES];
            minor = new long[(MOST_STATES - 1) * (MOST_STATES - 1)];
            due = new Patterns();
        }

        int states() {
            return states;
        }

        boolean hasState(int state) {
            return state >= 0 && state < states && state < MOST_STATES;
        }

        int addState(int isLossy) {
            if (states >= MOST_STATES) return FULL;
            losses[states] = isLossy;
            states++;
            return states - 1;
        }

        int dropStates() {
            int dropped = states;
            states = 0;
            Arrays.fill(weights, 0);
            return dropped;
        }

        int setWeight(int from, int to, int weightNow) {
            int previous = weightOf(from, to);
            if (hasState(from) && hasState(to)) weights[from * MOST_STATES + to] = weightNow;
            return previous;
        }

        private int weightOf(int from, int to) {
            return hasState(from) && hasState(to) ? weights[from * MOST_STATES + to] : 0;
        }

        boolean isSound() {
            if (states < 1) return false;
            for (int from = 0; from < states; from++) {
                int sum = 0;
                for (int to = 0; to < states; to++) sum += weightOf(from, to);
                if (sum != WHOLE) return false;
            }
            return reaches(true) && reaches(false);
        }

        /** Whether the first state reaches all, or all reach it. */
        private boolean reaches(boolean forward) {
            int reached = 1;
            for (int round = 1; round < states; round++) {
                for (int known = 0; known < states; known++) {
                    if (isIn(reached, known)) reached |= neighbours(known, forward);
                }
            }
            return reached == (1 << states) - 1;
        }

        private static boolean isIn(int set, int state) {
            return (set & 1 << state) != 0;
        }

        private int neighbours(int state, boolean forward) {
            int set = 0;
            for (int other = 0; other < states; other++) {
                int link = forward ? weightOf(state, other) : weightOf(other, state);
                if (link > 0) set |= 1 << other;
            }
            return set;
        }

        /**
         * By the Markov chain tree theorem the shares are as the principal
         * minors of the matrix 12 - weights.
         */
        void findShares() {
            long common = 0;
            for (int state = 0; state < MOST_STATES; state++) {
                shares[state] = hasState(state) ? minorWithout(state) : 0;
                common = commonDivisor(shares[state], common);
            }
            if (common == 0) return;
            for (int state = 0; state < MOST_STATES; state++) shares[state] /= common;
        }

        private long minorWithout(int state) {
            int size = states - 1;
            for (int r = 0; r < size; r++) {
                for (int c = 0; c < size; c++) {
                    int from = r < state ? r : r + 1, to = c < state ? c : c + 1;
                    setMinor(r, c, (from == to ? WHOLE : 0) - weightOf(from, to));
                }
            }
            return determinant(size);
        }

        /** By Bareiss' elimination, whose divisions leave no rest; in a sound chain no pivot is 0. */
        private long determinant(int size) {
            long previous = 1;
            for (int p = 0; p < size; p++) {
                long pivot = minorAt(p, p);
                if (pivot == 0 || previous == 0) return 0;
                for (int r = p + 1; r < size; r++) {
                    for (int c = p + 1; c < size; c++) {
                        setMinor(r, c, (minorAt(r, c) * pivot - minorAt(r, p) * minorAt(p, c)) / previous);
                    }
                }
                previous = pivot;
            }
            return previous;
        }

        private long minorAt(int r, int c) {
            int index = r * (MOST_STATES - 1) + c;
            return index >= 0 && index < minor.length ? minor[index] : 0;
        }

        private void setMinor(int r, int c, long number) {
            int index = r * (MOST_STATES - 1) + c;
            if (index >= 0 && index < minor.length) minor[index] = number;
        }

        long shareOf(int state) {
            return hasState(state) ? shares[state] : 0;
        }

        long allShares() {
            return sumOfStates(shares);
        }

        private static long sumOfStates(long[] numbers) {
            long sum = 0;
            for (int state = 0; state < numbers.length; state++) sum += numbers[state];
            return sum;
        }

        /** Begins walks in the states that are lossy (1) or not (0). */
        private void begin(int bit) {
            for (int state = 0; state < MOST_STATES; state++) walks[state] = losses[state] == bit ? shares[state] : 0;
        }

        /** Lets all walks go a step on; those stay that come to a state that is lossy (1) or not (0). */
        void moveTo(int bit) {
            for (int to = 0; to < MOST_STATES; to++) further[to] = losses[to] == bit ? waysInto(to) : 0;
            System.arraycopy(further, 0, walks, 0, MOST_STATES);
        }

        private long waysInto(int to) {
            long sum = 0;
            for (int from = 0; from < MOST_STATES; from++) sum += walks[from] * weightOf(from, to);
            return sum;
        }

        long ways() {
            return sumOfStates(walks);
        }

        long waysOf(int kind, int bits) {
            begin((bits >> (kind - 1)) & 1);
            for (int i = kind - 2; i >= 0; i--) moveTo((bits >> i) & 1);
            return ways();
        }

        /** The document's T. */
        long beginEpisode() {
            begin(0);
            moveTo(1);
            return ways();
        }

        /** The probabilities of all patterns, with the denominator of those of triples. */
        Patterns duePatterns() {
            due.restart();
            for (int bits = 0; bits < 4; bits++) due.add(PAIR, bits, WHOLE * waysOf(PAIR, bits));
            for (int bits = 0; bits < 8; bits++) due.add(TRIPLE, bits, waysOf(TRIPLE, bits));
            return due;
        }
    }

    /** The packets that will arrive, and how many of them a queue will lose. */
    private static final class Forecast {
        static final int MOST = 64;
        private final int[] arrivals;
        private int slots;

        Forecast() {
            arrivals = new int[MOST];
        }

        void restart() {
            slots = 0;
        }

        void expect(int packets) {
            if (slots >= arrivals.length) return;
            arrivals[slots] = packets;
            slots++;
        }

        int losses(int waitingNow, int capacity, int rate) {
            int waiting = waitingNow, lost = 0;
            for (int i = 0; i < slots && i < arrivals.length; i++) {
                int entering = Math.min(arrivals[i], Math.max(capacity - waiting, 0));
                lost += arrivals[i] - entering;
                waiting = Math.max(waiting + entering - rate, 0);
            }
            return lost;
        }
    }
}
