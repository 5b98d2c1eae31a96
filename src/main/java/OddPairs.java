import java.util.Arrays;
import java.util.NoSuchElementException;

/** Pairs in any network of up to twelve nodes, as ../shared/DOC.md promises. */
public final class OddPairs {
    public static final int NONE = -1;

    private static final int MOST_NODES = 12;
    private static final int SUBSETS = 1 << MOST_NODES;
    private static final int MOST_WEIGHT = 999;
    private static final int TAPE_BYTES = 500;
    private static final int FEED_BYTES = 20;
    private static final int UNDO_DEPTH = 8;

    private static final int MISSED = 0;
    private static final int BESIDE = 1;
    private static final int REST = 2;

    private static final int EVEN = 0;
    private static final int ODD = 1;
    private static final int OUT = 2;

    private static final int NO_SUCH = 0;
    private static final int ARGUMENT = 1;
    private static final int STATE = 2;

    private final byte[] tape = new byte[TAPE_BYTES];
    private int tapeLength = 0;
    private int faultPlace = NONE;

    private final Net net = new Net();
    private final Net draft = new Net();
    private final Net[] past = new Net[UNDO_DEPTH];
    private int pastCount = 0;

    private final Reader reader = new Reader();
    private final Greatest greatest = new Greatest(net);
    private final Parts parts = new Parts();
    private final Walks walks = new Walks();
    private final int[] refused = new int[3];

    public OddPairs() {
        for (int i = 0; i < UNDO_DEPTH; i++) {
            past[i] = new Net();
        }
        net.clear(2);
        net.putLine(0, 1, 1);
    }

    // ---- the tape and the text on it

    public int feed(int a, int b, int c, int d, int e) {
        if (tapeLength + FEED_BYTES > TAPE_BYTES) {
            return NONE;
        }
        putBytes(a);
        putBytes(b);
        putBytes(c);
        putBytes(d);
        putBytes(e);
        return tapeLength;
    }

    public int text(int n) throws IllegalArgumentException {
        needArgument(n >= 0 && n <= tapeLength);
        reader.read(tape, n, draft);
        tapeLength = 0;
        faultPlace = reader.place;
        if (reader.kind != 0) {
            return reader.kind - 10;
        }
        becomeDraft();
        return net.lines;
    }

    public int fault() {
        return faultPlace;
    }

    // ---- acts

    public int join(int a, int b, int weight) throws NoSuchElementException, IllegalArgumentException {
        needNode(a);
        needNode(b);
        needArgument(a != b && weight >= 0 && weight <= MOST_WEIGHT);
        rememberLines();
        net.putLine(a, b, weight);
        return net.lines;
    }

    public int cut(int a, int b) throws NoSuchElementException, IllegalArgumentException, IllegalStateException {
        needTwoNodes(a, b);
        needState(net.isLine(a, b));
        rememberLines();
        net.removeLine(a, b);
        return net.lines;
    }

    public int pair(int a, int b) throws NoSuchElementException, IllegalArgumentException, IllegalStateException {
        needTwoNodes(a, b);
        needState(net.isLine(a, b) && net.isFree(a) && net.isFree(b));
        remember();
        net.putPair(a, b);
        return net.countPairs();
    }

    public int part(int a) throws NoSuchElementException, IllegalStateException {
        needNode(a);
        needState(!net.isFree(a));
        remember();
        int mate = net.mates[a];
        net.removePair(a);
        return mate;
    }

    public int better(int a) throws NoSuchElementException, IllegalStateException {
        needNode(a);
        needState(walks.findBetterPath(net, a));
        remember();
        walks.betterPairs(net);
        return net.countPairs();
    }

    public int finish() {
        learn();
        greatest.fillFirst();
        int before = net.countPairs();
        remember();
        System.arraycopy(greatest.first, 0, net.mates, 0, MOST_NODES);
        return net.countPairs() - before;
    }

    public int shrink(int a) throws NoSuchElementException, IllegalStateException {
        needNode(a);
        needState(walks.findFlower(net, a));
        walks.shrinkInto(net, draft);
        becomeDraft();
        return net.nodes;
    }

    public int undo() {
        if (pastCount <= 0) {
            return NONE;
        }
        pastCount--;
        net.copyFrom(past[pastCount]);
        forgetAnswers();
        return pastCount;
    }

    // ---- questions

    public int told(int what) throws IllegalArgumentException {
        needArgument(what >= 0 && what <= 7);
        switch (what) {
            case 0:
                return net.nodes;
            case 1:
                return net.lines;
            case 2:
                return net.countPairs();
            case 3:
                learn();
                return greatest.size();
            case 4:
                learn();
                return greatest.missing();
            case 5:
                return net.weighPairs();
            case 6:
                return tapeLength;
            default:
                return pastCount;
        }
    }

    public int line(int a, int b, int what) throws NoSuchElementException, IllegalArgumentException {
        needNode(a);
        needNode(b);
        needArgument(a != b && what >= 0 && what <= 4);
        switch (what) {
            case 0:
                return asNumber(net.isLine(a, b));
            case 1:
                return net.weightOf(a, b);
            case 2:
                return asNumber(net.mates[a] == b);
            case 3:
                learn();
                return asNumber(greatest.someHave(a, b));
            default:
                learn();
                return asNumber(greatest.allHave(a, b));
        }
    }

    public int node(int a, int what) throws NoSuchElementException, IllegalArgumentException {
        needNode(a);
        needArgument(what >= 0 && what <= 4);
        switch (what) {
            case 0:
                return Integer.bitCount(net.near[a]);
            case 1:
                return net.mates[a];
            case 2:
                return labelOf(a);
            case 3:
                return setOf(a);
            default:
                learn();
                greatest.fillFirst();
                return greatest.first[a];
        }
    }

    public int sets(int what) throws IllegalArgumentException {
        needArgument(what >= 0 && what <= 5);
        if (what <= REST) {
            learn();
            return greatest.bitsOfSet(what);
        }
        walks.label(net);
        return walks.bitsOfLabel(net, what - 3);
    }

    public int odd(int set) throws IllegalArgumentException {
        needArgument(set >= 0 && set <= net.all());
        parts.learn(net);
        return parts.oddWithout(set);
    }

    public int barrier(int what) throws IllegalArgumentException {
        needArgument(what == 0 || what == 1);
        learn();
        parts.learn(net);
        return what == 0
            ? parts.smallestBarrier(greatest.missing())
            : parts.greatestBarrier(greatest.missing());
    }

    public int ways() {
        learn();
        return greatest.count();
    }

    public int heavy(int what) throws IllegalArgumentException {
        needArgument(what == 0 || what == 1);
        learn();
        return what == 0 ? greatest.mostWeight() : greatest.leastWeight();
    }

    public int path(int a, int i) throws NoSuchElementException {
        needNode(a);
        if (!walks.findBetterPath(net, a)) {
            return NONE;
        }
        return i == NONE ? walks.rowLength - 1 : placeInRow(i);
    }

    public int flower(int a, int i) throws NoSuchElementException {
        needNode(a);
        if (!walks.findFlower(net, a)) {
            return NONE;
        }
        return i == NONE ? walks.rowLength : placeInRow(i);
    }

    public long print() {
        long sum = 0;
        for (int a = 0; a < net.nodes; a++) {
            sum = sum * 31 + net.mates[a];
        }
        for (int a = 0; a < net.nodes; a++) {
            for (int b = a + 1; b < net.nodes; b++) {
                if (net.isLine(a, b)) {
                    sum = sum * 31 + net.weightOf(a, b);
                }
            }
        }
        return sum;
    }

    public int status(int what) {
        return what >= 0 && what < refused.length ? refused[what] : NONE;
    }

    // ---- what the calls above share

    private void putBytes(int number) {
        for (int shift = 24; shift >= 0 && tapeLength < TAPE_BYTES; shift -= 8) {
            tape[tapeLength] = (byte) (number >> shift);
            tapeLength++;
        }
    }

    private void needNode(int a) {
        if (!net.holds(a)) {
            refused[NO_SUCH]++;
            throw new NoSuchElementException("no such node");
        }
    }

    private void needTwoNodes(int a, int b) {
        needNode(a);
        needNode(b);
        needArgument(a != b);
    }

    private void needArgument(boolean holds) {
        if (!holds) {
            refused[ARGUMENT]++;
            throw new IllegalArgumentException("a number that is none such");
        }
    }

    private void needState(boolean holds) {
        if (!holds) {
            refused[STATE]++;
            throw new IllegalStateException("not as things stand");
        }
    }

    private int placeInRow(int i) {
        if (i < 0 || i >= walks.rowLength) {
            refused[NO_SUCH]++;
            throw new NoSuchElementException("no such place");
        }
        return walks.row[i];
    }

    private void remember() {
        if (pastCount >= UNDO_DEPTH) {
            dropOldest();
        }
        past[pastCount].copyFrom(net);
        pastCount++;
    }

    private void rememberLines() {
        remember();
        forgetAnswers();
    }

    private void dropOldest() {
        Net oldest = past[0];
        for (int i = 1; i < UNDO_DEPTH; i++) {
            past[i - 1] = past[i];
        }
        // Its rows are used again, so that no act makes an object.
        past[UNDO_DEPTH - 1] = oldest;
        pastCount = UNDO_DEPTH - 1;
    }

    private void becomeDraft() {
        rememberLines();
        net.copyFrom(draft);
    }

    /** Pairs don't count there: only what changes lines calls it. */
    private void forgetAnswers() {
        greatest.known = false;
        parts.known = false;
    }

    private void learn() {
        greatest.learn();
    }

    private int labelOf(int a) {
        walks.label(net);
        for (int label = EVEN; label < OUT; label++) {
            if (hasBit(walks.bitsOfLabel(net, label), a)) {
                return label;
            }
        }
        return OUT;
    }

    private int setOf(int a) {
        learn();
        for (int set = MISSED; set < REST; set++) {
            if (hasBit(greatest.bitsOfSet(set), a)) {
                return set;
            }
        }
        return REST;
    }

    private static boolean hasBit(int bits, int a) {
        return (bits >> a & 1) == 1;
    }

    private static int asNumber(boolean holds) {
        return holds ? 1 : 0;
    }

    /** Nodes, lines with weights, and pairs: all that an act changes. */
    private static final class Net {
        int nodes;
        int lines;
        final int[] weights = new int[MOST_NODES * MOST_NODES];
        final int[] near = new int[MOST_NODES];
        final int[] mates = new int[MOST_NODES];

        Net() {
            clear(1);
        }

        void clear(int count) {
            nodes = count;
            lines = 0;
            Arrays.fill(weights, NONE);
            Arrays.fill(near, 0);
            Arrays.fill(mates, NONE);
        }

        void copyFrom(Net other) {
            nodes = other.nodes;
            lines = other.lines;
            System.arraycopy(other.weights, 0, weights, 0, weights.length);
            System.arraycopy(other.near, 0, near, 0, MOST_NODES);
            System.arraycopy(other.mates, 0, mates, 0, MOST_NODES);
        }

        int all() {
            return (1 << nodes) - 1;
        }

        boolean holds(int a) {
            return a >= 0 && a < nodes;
        }

        boolean isLine(int a, int b) {
            return hasBit(near[a], b);
        }

        boolean isFree(int a) {
            return mates[a] == NONE;
        }

        int weightOf(int a, int b) {
            return weights[a * MOST_NODES + b];
        }

        void putLine(int a, int b, int weight) {
            if (!isLine(a, b)) {
                lines++;
            }
            near[a] |= 1 << b;
            near[b] |= 1 << a;
            setWeight(a, b, weight);
        }

        void putLineIfNone(int a, int b) {
            if (!isLine(a, b)) {
                putLine(a, b, 1);
            }
        }

        void removeLine(int a, int b) {
            if (mates[a] == b) {
                removePair(a);
            }
            if (isLine(a, b)) {
                lines--;
            }
            near[a] &= ~(1 << b);
            near[b] &= ~(1 << a);
            setWeight(a, b, NONE);
        }

        void setWeight(int a, int b, int weight) {
            weights[a * MOST_NODES + b] = weight;
            weights[b * MOST_NODES + a] = weight;
        }

        void putPair(int a, int b) {
            mates[a] = b;
            mates[b] = a;
        }

        void removePair(int a) {
            int b = mates[a];
            mates[a] = NONE;
            if (b != NONE) {
                mates[b] = NONE;
            }
        }

        int countPairs() {
            int count = 0;
            for (int a = 0; a < nodes; a++) {
                if (mates[a] > a) {
                    count++;
                }
            }
            return count;
        }

        int weighPairs() {
            int sum = 0;
            for (int a = 0; a < nodes; a++) {
                if (mates[a] > a) {
                    sum += weightOf(a, mates[a]);
                }
            }
            return sum;
        }

        boolean pairsAreLines() {
            for (int a = 0; a < nodes; a++) {
                if (mates[a] != NONE && !isLine(a, mates[a])) {
                    return false;
                }
            }
            return true;
        }
    }

    /** Reads a text into a network, as far as its first fault. */
    private static final class Reader {
        static final int CANNOT_STAND = 1;
        static final int NO_SUCH_NUMBER = 2;
        static final int NO_SUCH_PAIR = 3;
        // Above all numbers that a text may tell, so that long ones don't wrap round.
        static final int HUGE = 10000;

        int kind;
        int place;
        private byte[] bytes;
        private int length;
        private int at;
        private int numberAt;
        private boolean pairsClash;
        private final int[] ring = new int[MOST_NODES];

        Reader() {
            bytes = new byte[0];
        }

        void read(byte[] tape, int count, Net into) {
            bytes = tape;
            length = count;
            at = 0;
            kind = 0;
            place = NONE;
            pairsClash = false;
            readNodes(into);
            for (int i = 0; i < TAPE_BYTES && kind == 0 && !isAtEnd(); i++) {
                readStatement(into);
            }
            if (kind == 0 && (pairsClash || !into.pairsAreLines())) {
                fail(NO_SUCH_PAIR, length);
            }
        }

        private void readNodes(Net into) {
            if (!takeWord("nodes")) {
                fail(CANNOT_STAND, at);
            }
            int count = takeNumber(1, MOST_NODES);
            takeEnd();
            if (kind == 0) {
                into.clear(count);
            }
        }

        private void readStatement(Net into) {
            if (takeWord("line")) {
                readLine(into);
            } else if (takeWord("ring")) {
                readRing(into);
            } else if (takeWord("all")) {
                readAll(into);
            } else if (takeWord("pair")) {
                readPair(into);
            } else {
                fail(CANNOT_STAND, at);
            }
        }

        private void readLine(Net into) {
            int a = takeNumber(0, into.nodes - 1);
            int b = takeNumber(0, into.nodes - 1);
            needUnlike(a, b);
            int weight = 1;
            if (isNumberAhead()) {
                weight = takeNumber(0, MOST_WEIGHT);
            }
            takeEnd();
            if (kind == 0) {
                into.putLine(a, b, weight);
            }
        }

        private void readRing(Net into) {
            int seen = 0;
            int count = 0;
            while (count < MOST_NODES && kind == 0 && (count < 2 || isNumberAhead())) {
                int a = takeNumber(0, into.nodes - 1);
                if (kind == 0 && hasBit(seen, a)) {
                    fail(NO_SUCH_NUMBER, numberAt);
                }
                if (kind == 0) {
                    seen |= 1 << a;
                    ring[count] = a;
                }
                count++;
            }
            takeEnd();
            for (int i = 0; i < count && kind == 0; i++) {
                into.putLineIfNone(ring[i], ring[i + 1 < count ? i + 1 : 0]);
            }
        }

        private void readAll(Net into) {
            takeEnd();
            for (int a = 0; a < into.nodes && kind == 0; a++) {
                for (int b = a + 1; b < into.nodes; b++) {
                    into.putLineIfNone(a, b);
                }
            }
        }

        private void readPair(Net into) {
            int a = takeNumber(0, into.nodes - 1);
            int b = takeNumber(0, into.nodes - 1);
            needUnlike(a, b);
            takeEnd();
            if (kind != 0) {
                return;
            }
            // Faults 1 and 2 further on come first, so this one waits.
            if (into.isFree(a) && into.isFree(b)) {
                into.putPair(a, b);
            } else {
                pairsClash = true;
            }
        }

        private void needUnlike(int first, int second) {
            if (first == second) {
                fail(NO_SUCH_NUMBER, numberAt);
            }
        }

        private boolean takeWord(String word) {
            skipBlanks();
            int end = at;
            while (end < length && bytes[end] >= 'a' && bytes[end] <= 'z') {
                end++;
            }
            if (end - at != word.length()) {
                return false;
            }
            for (int i = 0; i < word.length(); i++) {
                if (bytes[at + i] != word.charAt(i)) {
                    return false;
                }
            }
            at = end;
            return true;
        }

        private int takeNumber(int least, int most) {
            if (kind == 0 && !isNumberAhead()) {
                fail(CANNOT_STAND, at);
            }
            if (kind != 0) {
                return NONE;
            }
            numberAt = at;
            int value = 0;
            while (at < length && isDigit(bytes[at])) {
                value = Math.min(HUGE, value * 10 + bytes[at] - '0');
                at++;
            }
            if (value < least || value > most) {
                fail(NO_SUCH_NUMBER, numberAt);
            }
            return value;
        }

        private void takeEnd() {
            skipBlanks();
            if (at < length && bytes[at] == ';') {
                at++;
            } else {
                fail(CANNOT_STAND, at);
            }
        }

        private boolean isNumberAhead() {
            skipBlanks();
            return at < length && isDigit(bytes[at]);
        }

        private boolean isAtEnd() {
            skipBlanks();
            return at >= length;
        }

        private void skipBlanks() {
            while (at < length && bytes[at] == ' ') {
                at++;
            }
        }

        private static boolean isDigit(byte sign) {
            return sign >= '0' && sign <= '9';
        }

        private void fail(int faultKind, int faultAt) {
            // What is read behind the first fault tells nothing more.
            if (kind == 0) {
                kind = faultKind;
                place = faultAt;
            }
        }
    }

    /**
     * Of subsets of the nodes: the greatest matchings inside. What is known of a subset is held in
     * one number, so that an object stays small: how many lines, how many such matchings, the most
     * and the least weight, sixteen bits each (62,370 are the most matchings that twelve nodes have
     * of one size).
     */
    private static final class Greatest {
        static final int SIZE_AT = 48;
        static final int COUNT_AT = 32;
        static final int HEAVIEST_AT = 16;
        static final long SIXTEEN_BITS = 0xffffL;

        boolean known = false;
        final int[] first = new int[MOST_NODES];
        private final Net net;
        // 0 is a subset that was not asked for: each has a matching, if only the one without lines.
        private final long[] inside = new long[SUBSETS];

        Greatest(Net told) {
            net = told;
        }

        void learn() {
            if (!known) {
                known = true;
                Arrays.fill(inside, 0);
            }
        }

        private long greatestIn(int set) {
            return greatestBelow(net.nodes, set);
        }

        /** Of a set all of whose nodes are below a number. */
        private long greatestBelow(int count, int set) {
            if (count <= 0 || set <= 0 || set >= SUBSETS) {
                return pack(0, 1, 0, 0);
            }
            if (inside[set] == 0) {
                inside[set] = workOut(count - 1, set);
            }
            return inside[set];
        }

        /** The highest node is in no line, or in one to a lower node. */
        private long workOut(int highest, int set) {
            int rest = set & ~(1 << highest);
            long best = greatestBelow(highest, rest);
            int mates = hasBit(set, highest) ? net.near[highest] & rest : 0;
            for (int b = 0; b < highest; b++) {
                if (hasBit(mates, b)) {
                    int weight = net.weightOf(highest, b);
                    best = both(best, greatestBelow(highest, rest & ~(1 << b)) + pack(1, 0, weight, weight));
                }
            }
            return best;
        }

        /** Two kinds of matchings that have none in common, told as one: the smaller ones fall away. */
        private static long both(long x, long y) {
            if (sizeIn(x) != sizeIn(y)) {
                return sizeIn(x) > sizeIn(y) ? x : y;
            }
            return pack(sizeIn(x), countIn(x) + countIn(y),
                Math.max(heaviestIn(x), heaviestIn(y)), Math.min(lightestIn(x), lightestIn(y)));
        }

        private static long pack(int size, int count, int heaviest, int lightest) {
            return (long) size << SIZE_AT | (long) count << COUNT_AT | (long) heaviest << HEAVIEST_AT | lightest;
        }

        private static int sizeIn(long packed) {
            return (int) (packed >> SIZE_AT & SIXTEEN_BITS);
        }

        private static int countIn(long packed) {
            return (int) (packed >> COUNT_AT & SIXTEEN_BITS);
        }

        private static int heaviestIn(long packed) {
            return (int) (packed >> HEAVIEST_AT & SIXTEEN_BITS);
        }

        private static int lightestIn(long packed) {
            return (int) (packed & SIXTEEN_BITS);
        }

        int size() {
            return sizeIn(greatestIn(net.all()));
        }

        int missing() {
            return net.nodes - 2 * size();
        }

        int count() {
            return countIn(greatestIn(net.all()));
        }

        int mostWeight() {
            return heaviestIn(greatestIn(net.all()));
        }

        int leastWeight() {
            return lightestIn(greatestIn(net.all()));
        }

        boolean someHave(int a, int b) {
            return net.isLine(a, b) && sizeIn(greatestIn(without(a, b))) + 1 == size();
        }

        boolean allHave(int a, int b) {
            return someHave(a, b) && countIn(greatestIn(without(a, b))) == count();
        }

        private int without(int a, int b) {
            return net.all() & ~(1 << a | 1 << b);
        }

        int bitsOfSet(int set) {
            int missed = 0;
            for (int a = 0; a < net.nodes; a++) {
                if (sizeIn(greatestIn(net.all() & ~(1 << a))) == size()) {
                    missed |= 1 << a;
                }
            }
            int beside = 0;
            for (int a = 0; a < net.nodes; a++) {
                if (!hasBit(missed, a) && (net.near[a] & missed) != 0) {
                    beside |= 1 << a;
                }
            }
            if (set == MISSED) {
                return missed;
            }
            return set == BESIDE ? beside : net.all() & ~missed & ~beside;
        }

        /** Node by node the least mate that still leaves the most pairs. */
        void fillFirst() {
            Arrays.fill(first, NONE);
            int rest = net.all();
            for (int a = 0; a < net.nodes; a++) {
                if (!hasBit(rest, a)) {
                    continue;
                }
                int b = firstMate(a, rest);
                rest &= ~(1 << a);
                if (b != NONE) {
                    first[a] = b;
                    first[b] = a;
                    rest &= ~(1 << b);
                }
            }
        }

        private int firstMate(int a, int rest) {
            for (int b = a + 1; b < net.nodes; b++) {
                if (hasBit(rest, b) && net.isLine(a, b)
                        && sizeIn(greatestIn(rest & ~(1 << a | 1 << b))) + 1 == sizeIn(greatestIn(rest))) {
                    return b;
                }
            }
            return NONE;
        }
    }

    /**
     * Of all subsets of the nodes: the nodes around, and how many odd parts it falls into. Both are
     * held in one number, so that an object stays small.
     */
    private static final class Parts {
        static final int AROUND_AT = 4;
        static final int FOUR_BITS = 15;

        boolean known = false;
        private int all = 0;
        private final int[] inside = new int[SUBSETS];

        void learn(Net net) {
            if (known) {
                return;
            }
            known = true;
            all = net.all();
            for (int a = 0; a < net.nodes; a++) {
                for (int set = 1 << a; set < 1 << (a + 1); set++) {
                    learnSet(net, a, set);
                }
            }
        }

        private void learnSet(Net net, int a, int set) {
            int around = aroundOf(set & ~(1 << a)) | net.near[a];
            // The part may be the whole set, so what is around it must stand by then.
            inside[set] = around << AROUND_AT;
            int part = partOf(a, set);
            inside[set] |= oddIn(set & ~part) + (Integer.bitCount(part) & 1);
        }

        private int aroundOf(int set) {
            return inside[set] >> AROUND_AT;
        }

        private int oddIn(int set) {
            return inside[set] & FOUR_BITS;
        }

        private int partOf(int a, int set) {
            int part = 1 << a;
            for (int i = 0; i < MOST_NODES; i++) {
                int wider = part | aroundOf(part) & set;
                if (wider == part) {
                    break;
                }
                part = wider;
            }
            return part;
        }

        int oddWithout(int set) {
            return oddIn(all & ~set);
        }

        private boolean isBarrier(int set, int missing) {
            return oddWithout(set) - Integer.bitCount(set) == missing;
        }

        int smallestBarrier(int missing) {
            int best = 0;
            int fewest = MOST_NODES + 1;
            for (int set = 0; set <= all; set++) {
                int size = Integer.bitCount(set);
                if (size < fewest && isBarrier(set, missing)) {
                    best = set;
                    fewest = size;
                }
            }
            return best;
        }

        int greatestBarrier(int missing) {
            int best = 0;
            int most = NONE;
            for (int set = 0; set <= all; set++) {
                int size = Integer.bitCount(set);
                if (size > most && isBarrier(set, missing)) {
                    best = set;
                    most = size;
                }
            }
            return best;
        }
    }

    /**
     * Alternating walks from a node, two lines at a time. Walks over the same nodes with the same
     * last one can go on alike, so only the one whose row is least is kept.
     */
    private static final class Walks {
        // Five pairs at most beside the first node: 5 * 2^5 ways to end, and the first node alone.
        static final int MOST_PAIRS = 5;
        static final int MOST_WALKS = 161;

        final int[] row = new int[MOST_NODES];
        int rowLength = 0;
        private int count = 0;
        private int even = 0;
        private int led = 0;
        private final int[] over = new int[MOST_WALKS];
        private final int[] last = new int[MOST_WALKS];
        private final int[] ahead = new int[MOST_WALKS];
        private final int[] pairBits = new int[MOST_NODES];
        private final int[] pairsOver = new int[MOST_WALKS];
        private final int[] lastsSeen = new int[1 << MOST_PAIRS];

        /** Shortest first, of one length by their rows: the first that serves is the one asked for. */
        private void spread(Net net, int start) {
            numberPairs(net, start);
            Arrays.fill(lastsSeen, 0);
            count = 0;
            add(1 << start, 0, start, NONE);
            for (int i = 0; i < count && i < MOST_WALKS; i++) {
                goOn(net, i);
            }
        }

        /** A bit for each pair that a walk may go over: that of the first node is none of them. */
        private void numberPairs(Net net, int start) {
            int bit = 1;
            for (int a = 0; a < net.nodes; a++) {
                int mate = net.mates[a];
                if (mate > a && a != start && mate != start) {
                    pairBits[a] = bit;
                    pairBits[mate] = bit;
                    bit <<= 1;
                }
            }
        }

        private void goOn(Net net, int walk) {
            int open = net.near[last[walk]] & ~over[walk];
            for (int a = 0; a < net.nodes; a++) {
                if (hasBit(open, a) && !net.isFree(a)) {
                    int mate = net.mates[a];
                    if (!hasBit(over[walk], mate)) {
                        add(over[walk] | 1 << a | 1 << mate, pairsOver[walk] | pairBits[a], mate, walk);
                    }
                }
            }
        }

        private void add(int nodesOver, int pairs, int end, int from) {
            if (count >= MOST_WALKS || pairs >= lastsSeen.length || hasBit(lastsSeen[pairs], end)) {
                return;
            }
            lastsSeen[pairs] |= 1 << end;
            over[count] = nodesOver;
            pairsOver[count] = pairs;
            last[count] = end;
            ahead[count] = from;
            count++;
        }

        boolean findBetterPath(Net net, int a) {
            if (!net.isFree(a)) {
                return false;
            }
            spread(net, a);
            for (int i = 0; i < count; i++) {
                int end = freeBeside(net, last[i], a);
                if (end != NONE) {
                    fillRow(net, i);
                    addToRow(end);
                    return true;
                }
            }
            return false;
        }

        private int freeBeside(Net net, int a, int start) {
            for (int b = 0; b < net.nodes; b++) {
                if (b != start && net.isLine(a, b) && net.isFree(b)) {
                    return b;
                }
            }
            return NONE;
        }

        boolean findFlower(Net net, int a) {
            spread(net, a);
            for (int i = 1; i < count; i++) {
                if (net.isLine(last[i], a)) {
                    fillRow(net, i);
                    return true;
                }
            }
            return false;
        }

        private void fillRow(Net net, int walk) {
            rowLength = Integer.bitCount(over[walk]);
            int i = walk;
            for (int at = rowLength - 1; at > 0 && i > 0; at -= 2) {
                row[at] = last[i];
                row[at - 1] = net.mates[last[i]];
                i = ahead[i];
            }
            row[0] = last[0];
        }

        private void addToRow(int a) {
            if (rowLength < MOST_NODES) {
                row[rowLength] = a;
                rowLength++;
            }
        }

        void betterPairs(Net net) {
            for (int i = 0; i + 1 < rowLength; i += 2) {
                net.putPair(row[i], row[i + 1]);
            }
        }

        void shrinkInto(Net net, Net into) {
            int gone = 0;
            for (int i = 1; i < rowLength; i++) {
                gone |= 1 << row[i];
            }
            into.clear(net.nodes - rowLength + 1);
            for (int a = 0; a < net.nodes; a++) {
                int x = numberAnew(a, gone);
                for (int b = a + 1; b < net.nodes; b++) {
                    int y = numberAnew(b, gone);
                    if (x != y && net.isLine(a, b)) {
                        into.putLine(x, y, Math.max(into.weightOf(x, y), net.weightOf(a, b)));
                    }
                    if (x != y && net.mates[a] == b) {
                        into.putPair(x, y);
                    }
                }
            }
        }

        /** Those that go stand for the node that they are shrunk to. */
        private int numberAnew(int a, int gone) {
            int stays = hasBit(gone, a) ? row[0] : a;
            return stays - Integer.bitCount(gone & (1 << stays) - 1);
        }

        void label(Net net) {
            even = 0;
            led = 0;
            for (int a = 0; a < net.nodes; a++) {
                if (net.isFree(a)) {
                    spread(net, a);
                    markEnds(net);
                }
            }
        }

        private void markEnds(Net net) {
            for (int i = 0; i < count; i++) {
                even |= 1 << last[i];
                led |= net.near[last[i]] & ~over[i];
            }
        }

        int bitsOfLabel(Net net, int label) {
            if (label == EVEN) {
                return even;
            }
            return label == ODD ? led & ~even : net.all() & ~led & ~even;
        }
    }
}
