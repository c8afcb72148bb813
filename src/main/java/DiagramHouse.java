/**
 * Functions of ten inputs, with the diagrams of questions that they have in an
 * order of the inputs which can be changed while they are kept.
 */
public final class DiagramHouse {
    public static final int NONE = -1;

    private static final int INPUTS = 10;
    private static final int PLACES = 24;
    private static final int WAYS = 1 << INPUTS;

    private static final int AND = 0;
    private static final int OR = 1;
    private static final int XOR = 2;
    private static final int IMPLIES = 3;
    private static final int SAME = 4;
    private static final int WITHOUT = 5;
    private static final int KINDS = 6;

    private final Functions functions;
    private final Diagrams diagrams;
    private boolean drawn;

    public DiagramHouse() {
        functions = new Functions();
        diagrams = new Diagrams();
        drawn = false;
    }

    public void constant(int p, int v) throws IndexOutOfBoundsException, IllegalArgumentException {
        needPlace(p);
        needTruth(v);
        functions.setAll(p, v);
        drawn = false;
    }

    public void input(int p, int k) throws IndexOutOfBoundsException, IllegalArgumentException {
        needPlace(p);
        needInput(k);
        functions.setInput(p, k);
        drawn = false;
    }

    public void make(int p, int kind, int q, int r) throws IndexOutOfBoundsException, IllegalArgumentException {
        needPlace(p);
        needPlace(q);
        needPlace(r);
        needBelow(kind, KINDS);
        functions.join(p, kind, q, r);
        drawn = false;
    }

    public void choose(int p, int q, int r, int s) throws IndexOutOfBoundsException {
        needPlace(p);
        needPlace(q);
        needPlace(r);
        needPlace(s);
        functions.select(p, q, r, s);
        drawn = false;
    }

    public void fix(int p, int q, int k, int v) throws IndexOutOfBoundsException, IllegalArgumentException {
        needPlace(p);
        needPlace(q);
        needInput(k);
        needTruth(v);
        functions.restrict(p, q, k, v);
        drawn = false;
    }

    public void compose(int p, int q, int k, int r) throws IndexOutOfBoundsException, IllegalArgumentException {
        needPlace(p);
        needPlace(q);
        needPlace(r);
        needInput(k);
        functions.replace(p, q, k, r);
        drawn = false;
    }

    public void quantify(int p, int q, int set, boolean every)
            throws IndexOutOfBoundsException, IllegalArgumentException {
        needPlace(p);
        needPlace(q);
        needBelow(set, WAYS);
        functions.copy(p, q);
        functions.merge(p, set, every ? AND : OR);
        drawn = false;
    }

    public void meet(int p, int q, int r, int set) throws IndexOutOfBoundsException, IllegalArgumentException {
        needPlace(p);
        needPlace(q);
        needPlace(r);
        needBelow(set, WAYS);
        functions.join(p, AND, q, r);
        functions.merge(p, set, OR);
        drawn = false;
    }

    public int move(int k, int to) throws IllegalArgumentException {
        needInput(k);
        needBelow(to, INPUTS);
        Diagrams current = drawnDiagrams();
        current.carry(current.levelOf(k), to);
        return current.wholeSize();
    }

    public int sift(int k) throws IllegalArgumentException {
        needInput(k);
        return drawnDiagrams().settle(k);
    }

    public int siftAll() {
        Diagrams current = drawnDiagrams();
        current.settleAll();
        return current.wholeSize();
    }

    public int order(int i) throws IndexOutOfBoundsException {
        if (i < 0 || i >= INPUTS) {
            throw new IndexOutOfBoundsException("no such place of the order");
        }
        return diagrams.inputAt(i);
    }

    public int size(int p) throws IndexOutOfBoundsException {
        if (p == NONE) {
            return drawnDiagrams().wholeSize();
        }
        needPlace(p);
        return drawnDiagrams().sizeOf(p);
    }

    public int count(int p) throws IndexOutOfBoundsException {
        needPlace(p);
        return functions.ones(p);
    }

    public boolean value(int p, int inputs) throws IndexOutOfBoundsException, IllegalArgumentException {
        needPlace(p);
        needBelow(inputs, WAYS);
        return functions.isOne(p, inputs);
    }

    public int least(int p) throws IndexOutOfBoundsException {
        needPlace(p);
        return functions.firstOne(p);
    }

    public int support(int p) throws IndexOutOfBoundsException {
        needPlace(p);
        return functions.usedInputs(p);
    }

    public boolean alike(int p, int q) throws IndexOutOfBoundsException {
        needPlace(p);
        needPlace(q);
        return functions.areSame(p, q);
    }

    public int asked(int p, int inputs, int i) throws IndexOutOfBoundsException, IllegalArgumentException {
        needPlace(p);
        if (i < 0) {
            throw new IndexOutOfBoundsException("no such question");
        }
        needBelow(inputs, WAYS);
        return drawnDiagrams().questionOf(p, inputs, i);
    }

    public int questions(int k) throws IllegalArgumentException {
        needInput(k);
        Diagrams current = drawnDiagrams();
        return current.questionsAt(current.levelOf(k));
    }

    /** Drawing waits for the first call that needs it, as most calls ask the tables alone. */
    private Diagrams drawnDiagrams() {
        if (!drawn) {
            diagrams.draw(functions);
            drawn = true;
        }
        return diagrams;
    }

    private static void needPlace(int p) {
        if (p < 0 || p >= PLACES) {
            throw new IndexOutOfBoundsException("no such place");
        }
    }

    private static void needInput(int k) {
        if (k < 0 || k >= INPUTS) {
            throw new IllegalArgumentException("no such input");
        }
    }

    private static void needTruth(int v) {
        if (v != 0 && v != 1) {
            throw new IllegalArgumentException("neither 0 nor 1");
        }
    }

    private static void needBelow(int number, int end) {
        if (number < 0 || number >= end) {
            throw new IllegalArgumentException("number out of range");
        }
    }

    /**
     * The function of each place as a table of 1024 bits, bit x for the inputs x.
     * The tables do not know the order, so that changing it leaves them alone.
     */
    private static final class Functions {
        static final int WORDS = 16;
        /** Inputs below this one choose a bit of a word, the others choose the word. */
        static final int WORD_INPUTS = 6;

        private static final int FIRST_SPARE = PLACES;
        private static final int SECOND_SPARE = PLACES + 1;

        private final long[] words;

        Functions() {
            words = new long[(PLACES + 2) * WORDS];
        }

        /** The bits of a word at which an input below WORD_INPUTS is 1. */
        static long onesOf(int k) {
            switch (k) {
                case 0: return 0xAAAAAAAAAAAAAAAAL;
                case 1: return 0xCCCCCCCCCCCCCCCCL;
                case 2: return 0xF0F0F0F0F0F0F0F0L;
                case 3: return 0xFF00FF00FF00FF00L;
                case 4: return 0xFFFF0000FFFF0000L;
                default: return 0xFFFFFFFF00000000L;
            }
        }

        long wordOf(int p, int w) {
            return words[p * WORDS + w];
        }

        void setAll(int p, int v) {
            long word = v == 1 ? -1L : 0L;
            for (int w = 0; w < WORDS; w++) {
                words[p * WORDS + w] = word;
            }
        }

        void setInput(int p, int k) {
            for (int w = 0; w < WORDS; w++) {
                words[p * WORDS + w] = k < WORD_INPUTS ? onesOf(k) : -(long) (w >> (k - WORD_INPUTS) & 1);
            }
        }

        void copy(int p, int q) {
            System.arraycopy(words, q * WORDS, words, p * WORDS, WORDS);
        }

        void join(int p, int kind, int q, int r) {
            for (int w = 0; w < WORDS; w++) {
                words[p * WORDS + w] = joined(kind, wordOf(q, w), wordOf(r, w));
            }
        }

        private static long joined(int kind, long a, long b) {
            switch (kind) {
                case AND: return a & b;
                case OR: return a | b;
                case XOR: return a ^ b;
                case IMPLIES: return ~a | b;
                case SAME: return ~(a ^ b);
                case WITHOUT: return a & ~b;
                default: return 0L;
            }
        }

        void select(int p, int q, int r, int s) {
            for (int w = 0; w < WORDS; w++) {
                long test = wordOf(q, w);
                words[p * WORDS + w] = test & wordOf(r, w) | ~test & wordOf(s, w);
            }
        }

        /** Right for p = q too: a word comes of itself, or of one that stays as it is. */
        void restrict(int p, int q, int k, int v) {
            if (k < WORD_INPUTS) {
                restrictWithinWords(p, q, k, v);
                return;
            }
            int step = 1 << (k - WORD_INPUTS);
            for (int w = 0; w < WORDS; w++) {
                words[p * WORDS + w] = wordOf(q, v == 1 ? w | step : w & ~step);
            }
        }

        private void restrictWithinWords(int p, int q, int k, int v) {
            long ones = onesOf(k);
            int shift = 1 << k;
            for (int w = 0; w < WORDS; w++) {
                long word = wordOf(q, w);
                long kept = v == 1 ? word & ones : word & ~ones;
                words[p * WORDS + w] = v == 1 ? kept | kept >>> shift : kept | kept << shift;
            }
        }

        void replace(int p, int q, int k, int r) {
            restrict(FIRST_SPARE, q, k, 0);
            restrict(SECOND_SPARE, q, k, 1);
            select(p, r, SECOND_SPARE, FIRST_SPARE);
        }

        /** Joins what is left for 0 and for 1 of each input of the set. */
        void merge(int p, int set, int kind) {
            for (int k = 0; k < INPUTS; k++) {
                if ((set >> k & 1) == 1) {
                    restrict(FIRST_SPARE, p, k, 0);
                    restrict(SECOND_SPARE, p, k, 1);
                    join(p, kind, FIRST_SPARE, SECOND_SPARE);
                }
            }
        }

        int ones(int p) {
            int sum = 0;
            for (int w = 0; w < WORDS; w++) {
                sum += Long.bitCount(wordOf(p, w));
            }
            return sum;
        }

        boolean isOne(int p, int inputs) {
            return (wordOf(p, inputs >> WORD_INPUTS) >>> (inputs & 63) & 1L) == 1L;
        }

        int firstOne(int p) {
            for (int w = 0; w < WORDS; w++) {
                long word = wordOf(p, w);
                if (word != 0L) {
                    return (w << WORD_INPUTS) + Long.numberOfTrailingZeros(word);
                }
            }
            return NONE;
        }

        int usedInputs(int p) {
            int used = 0;
            for (int k = 0; k < INPUTS; k++) {
                restrict(FIRST_SPARE, p, k, 0);
                if (!areSame(FIRST_SPARE, p)) {
                    used |= 1 << k;
                }
            }
            return used;
        }

        boolean areSame(int p, int q) {
            for (int w = 0; w < WORDS; w++) {
                if (wordOf(p, w) != wordOf(q, w)) {
                    return false;
                }
            }
            return true;
        }
    }

    /**
     * The unlike tables of all places, their bits put so that the first input of
     * an order is the highest bit of the index: what is left of a function after
     * some questions then stands together.
     */
    private static final class Arrangement {
        private static final int HIGHEST = INPUTS - 1;

        private final long[] words;
        private final int[] tableOf;
        private final int[] inputOfBit;
        private int tables;

        Arrangement() {
            words = new long[PLACES * Functions.WORDS];
            tableOf = new int[PLACES];
            inputOfBit = new int[INPUTS];
            tables = 0;
        }

        int tables() {
            return tables;
        }

        int tableOf(int p) {
            return tableOf[p];
        }

        long word(int w) {
            return words[w];
        }

        void take(Functions functions, int[] inputs) {
            tables = 0;
            for (int p = 0; p < PLACES; p++) {
                tableOf[p] = tableFor(functions, p);
            }
            arrange(inputs);
        }

        private int tableFor(Functions functions, int p) {
            for (int q = 0; q < p; q++) {
                if (functions.areSame(q, p)) {
                    return tableOf[q];
                }
            }
            for (int w = 0; w < Functions.WORDS; w++) {
                words[tables * Functions.WORDS + w] = functions.wordOf(p, w);
            }
            tables++;
            return tables - 1;
        }

        private void arrange(int[] inputs) {
            for (int bit = 0; bit < INPUTS; bit++) {
                inputOfBit[bit] = bit;
            }
            for (int bit = HIGHEST; bit > 0; bit--) {
                int wanted = inputs[HIGHEST - bit];
                int from = bitOf(wanted, bit);
                if (from != bit) {
                    exchange(from, bit);
                    inputOfBit[from] = inputOfBit[bit];
                    inputOfBit[bit] = wanted;
                }
            }
        }

        /** No bit above the highest one can have the input: those are settled with others. */
        private int bitOf(int wanted, int highest) {
            for (int bit = 0; bit < highest; bit++) {
                if (inputOfBit[bit] == wanted) {
                    return bit;
                }
            }
            return highest;
        }

        private void exchange(int low, int high) {
            if (high < Functions.WORD_INPUTS) {
                exchangeWithinWords(low, high);
            } else if (low < Functions.WORD_INPUTS) {
                exchangeAcrossWords(low, 1 << (high - Functions.WORD_INPUTS));
            } else {
                exchangeWords(1 << (low - Functions.WORD_INPUTS), 1 << (high - Functions.WORD_INPUTS));
            }
        }

        private void exchangeWithinWords(int low, int high) {
            long moving = Functions.onesOf(low) & ~Functions.onesOf(high);
            int shift = (1 << high) - (1 << low);
            int end = tables * Functions.WORDS;
            for (int w = 0; w < end; w++) {
                long word = words[w];
                long unlike = (word >>> shift ^ word) & moving;
                words[w] = word ^ unlike ^ unlike << shift;
            }
        }

        private void exchangeAcrossWords(int low, int step) {
            long moving = ~Functions.onesOf(low);
            int shift = 1 << low;
            int end = tables * Functions.WORDS;
            for (int w = 0; w < end; w++) {
                if ((w & step) == 0) {
                    long unlike = (words[w] >>> shift ^ words[w + step]) & moving;
                    words[w] ^= unlike << shift;
                    words[w + step] ^= unlike;
                }
            }
        }

        private void exchangeWords(int lowStep, int highStep) {
            int end = tables * Functions.WORDS;
            for (int w = 0; w < end; w++) {
                if ((w & lowStep) != 0 && (w & highStep) == 0) {
                    int other = w - lowStep + highStep;
                    long word = words[w];
                    words[w] = words[other];
                    words[other] = word;
                }
            }
        }
    }

    /** Gives equal keys the same number: 0, 1, .. as unlike ones come. */
    private static final class Numbering {
        private static final int SLOT_BITS = 12;
        private static final int SLOTS = 1 << SLOT_BITS;
        /** Odd and without a pattern, so that the top bits of a product differ for near keys. */
        private static final long SPREAD = 0x9E3779B97F4A7C15L;

        private final long[] keys;
        private final int[] numberInSlot;
        private final int[] roundOfSlot;
        private int round;
        private int size;

        Numbering(int mostKeys) {
            keys = new long[mostKeys < 1 ? 1 : mostKeys];
            numberInSlot = new int[SLOTS];
            roundOfSlot = new int[SLOTS];
            round = 0;
            size = 0;
        }

        /** A new round makes all slots free without writing to them. */
        void restart() {
            round++;
            size = 0;
        }

        int keysSoFar() {
            return size;
        }

        long keyOf(int number) {
            return keys[number];
        }

        int numberOf(long key) {
            int slot = (int) (key * SPREAD >>> (64 - SLOT_BITS));
            for (int tries = 0; tries < SLOTS; tries++) {
                if (roundOfSlot[slot] != round) {
                    return entered(slot, key);
                }
                if (keys[numberInSlot[slot]] == key) {
                    return numberInSlot[slot];
                }
                slot = (slot + 1) & (SLOTS - 1);
            }
            return 0;
        }

        private int entered(int slot, long key) {
            if (size >= keys.length) {
                return 0;
            }
            keys[size] = key;
            numberInSlot[slot] = size;
            roundOfSlot[slot] = round;
            size++;
            return size - 1;
        }
    }

    /**
     * The diagrams of all places in the order, drawn with a node at every level:
     * a node is what is left of some function when the inputs of the levels above
     * are known, and holds its two nodes of the next level, for 0 and for 1. It is
     * a question if these are not the same one. Changing neighbours in the order
     * then touches two levels alone and leaves no node that nothing leads to.
     */
    private static final class Diagrams {
        /** The level at which what is left of a function is one word of its table. */
        private static final int WORD_LEVEL = INPUTS - Functions.WORD_INPUTS;
        private static final int LAST_LEVEL = INPUTS - 1;

        /**
         * At most twice as many as on the level above, and at most as many as there
         * are functions of the inputs that are left.
         */
        private static final int[] ROOM = {24, 48, 96, 192, 384, 768, 1536, 256, 16, 4};
        private static final int[] START = {0, 24, 72, 168, 360, 744, 1512, 3048, 3304, 3320};
        private static final int ALL_ROOM = 3324;
        private static final int MOST_ROOM = 1536;

        /** A node is one number: the next node for 0 above these bits, that for 1 in them. */
        private static final int NODE_BITS = 12;
        private static final int NODE_MASK = (1 << NODE_BITS) - 1;

        private final int[] inputs;
        private final int[] nodes;
        private final int[] nodesAt;
        private final int[] asksAt;
        private final int[] roots;
        private final int[] visit;
        private final int[] waiting;
        private final int[] numbers;
        private final long[] parts;
        private final Arrangement arrangement;
        private final Numbering numbering;
        private int visits;

        Diagrams() {
            inputs = new int[INPUTS];
            for (int level = 0; level < INPUTS; level++) {
                inputs[level] = level;
            }
            nodes = new int[ALL_ROOM];
            nodesAt = new int[INPUTS];
            asksAt = new int[INPUTS];
            roots = new int[PLACES];
            visit = new int[ALL_ROOM];
            waiting = new int[INPUTS];
            numbers = new int[PLACES * Functions.WORDS];
            parts = new long[MOST_ROOM];
            arrangement = new Arrangement();
            numbering = new Numbering(MOST_ROOM);
            visits = 0;
        }

        private static int node(int zero, int one) {
            return zero << NODE_BITS | one;
        }

        private static int zeroOf(int node) {
            return node >>> NODE_BITS;
        }

        private static int oneOf(int node) {
            return node & NODE_MASK;
        }

        private int nodeAt(int level, int number) {
            return nodes[START[level] + number];
        }

        int inputAt(int level) {
            return inputs[level];
        }

        int levelOf(int k) {
            for (int level = 0; level < LAST_LEVEL; level++) {
                if (inputs[level] == k) {
                    return level;
                }
            }
            return LAST_LEVEL;
        }

        void draw(Functions functions) {
            arrangement.take(functions, inputs);
            numberWords();
            for (int level = WORD_LEVEL; level < LAST_LEVEL; level++) {
                splitParts(level);
            }
            splitLastParts();
            for (int level = WORD_LEVEL - 1; level >= 0; level--) {
                pairNumbers(level);
            }
            for (int p = 0; p < PLACES; p++) {
                roots[p] = numbers[arrangement.tableOf(p)];
            }
            for (int level = 0; level < INPUTS; level++) {
                countAsks(level);
            }
        }

        private void numberWords() {
            numbering.restart();
            int end = arrangement.tables() * Functions.WORDS;
            for (int w = 0; w < end; w++) {
                numbers[w] = numbering.numberOf(arrangement.word(w));
            }
            keepParts(WORD_LEVEL);
        }

        /** Goes down from the words: a part's halves are the parts of the next level. */
        private void splitParts(int level) {
            int half = 1 << (LAST_LEVEL - level);
            long lowHalf = (1L << half) - 1L;
            numbering.restart();
            for (int x = 0; x < nodesAt[level]; x++) {
                int zero = numbering.numberOf(parts[x] & lowHalf);
                int one = numbering.numberOf(parts[x] >>> half);
                nodes[START[level] + x] = node(zero, one);
            }
            keepParts(level + 1);
        }

        private void keepParts(int level) {
            nodesAt[level] = Math.min(numbering.keysSoFar(), ROOM[level]);
            for (int x = 0; x < nodesAt[level]; x++) {
                parts[x] = numbering.keyOf(x);
            }
        }

        /** Below the last level stand the answers themselves, as nodes 0 and 1. */
        private void splitLastParts() {
            for (int x = 0; x < nodesAt[LAST_LEVEL]; x++) {
                int zero = (int) (parts[x] & 1L);
                int one = (int) (parts[x] >>> 1 & 1L);
                nodes[START[LAST_LEVEL] + x] = node(zero, one);
            }
        }

        /** Goes up from the words: two neighbours of the next level are one node here. */
        private void pairNumbers(int level) {
            numbering.restart();
            int end = arrangement.tables() << level;
            for (int x = 0; x < end; x++) {
                numbers[x] = numbering.numberOf(node(numbers[2 * x], numbers[2 * x + 1]));
            }
            keepNodes(level);
        }

        private void keepNodes(int level) {
            nodesAt[level] = Math.min(numbering.keysSoFar(), ROOM[level]);
            for (int x = 0; x < nodesAt[level]; x++) {
                nodes[START[level] + x] = (int) numbering.keyOf(x);
            }
        }

        private void countAsks(int level) {
            int asks = 0;
            for (int x = 0; x < nodesAt[level]; x++) {
                int node = nodeAt(level, x);
                if (zeroOf(node) != oneOf(node)) {
                    asks++;
                }
            }
            asksAt[level] = asks;
        }

        int questionsAt(int level) {
            return asksAt[level];
        }

        int wholeSize() {
            int sum = 0;
            for (int level = 0; level < INPUTS; level++) {
                sum += asksAt[level];
            }
            return sum;
        }

        /** Nodes lead to the next level only, so one pass down finds all that belong to p. */
        int sizeOf(int p) {
            visits++;
            visit[START[0] + roots[p]] = visits;
            int asks = 0;
            for (int level = 0; level < INPUTS; level++) {
                for (int x = 0; x < nodesAt[level]; x++) {
                    if (visit[START[level] + x] == visits) {
                        asks += visitNext(level, nodeAt(level, x));
                    }
                }
            }
            return asks;
        }

        private int visitNext(int level, int node) {
            if (level < LAST_LEVEL) {
                visit[START[level + 1] + zeroOf(node)] = visits;
                visit[START[level + 1] + oneOf(node)] = visits;
            }
            return zeroOf(node) != oneOf(node) ? 1 : 0;
        }

        int questionOf(int p, int given, int i) {
            int number = roots[p];
            int before = 0;
            for (int level = 0; level < INPUTS; level++) {
                int node = nodeAt(level, number);
                if (zeroOf(node) != oneOf(node)) {
                    if (before == i) {
                        return inputs[level];
                    }
                    before++;
                }
                number = (given >> inputs[level] & 1) == 1 ? oneOf(node) : zeroOf(node);
            }
            return NONE;
        }

        /** Changes the inputs of a level and the next one; the upper nodes keep their numbers. */
        private void changeNeighbours(int level) {
            numbering.restart();
            for (int x = 0; x < nodesAt[level]; x++) {
                int upper = nodeAt(level, x);
                int ifZero = nodeAt(level + 1, zeroOf(upper));
                int ifOne = nodeAt(level + 1, oneOf(upper));
                int zero = numbering.numberOf(node(zeroOf(ifZero), zeroOf(ifOne)));
                int one = numbering.numberOf(node(oneOf(ifZero), oneOf(ifOne)));
                nodes[START[level] + x] = node(zero, one);
            }
            keepNodes(level + 1);
            countAsks(level);
            countAsks(level + 1);
            int input = inputs[level];
            inputs[level] = inputs[level + 1];
            inputs[level + 1] = input;
        }

        void carry(int from, int to) {
            for (int level = from; level < to; level++) {
                changeNeighbours(level);
            }
            for (int level = from; level > to; level--) {
                changeNeighbours(level - 1);
            }
        }

        /** Goes through all levels from the first one on, so that the first of the least stays. */
        int settle(int k) {
            carry(levelOf(k), 0);
            int best = 0;
            int leastSize = wholeSize();
            for (int level = 1; level < INPUTS; level++) {
                changeNeighbours(level - 1);
                int size = wholeSize();
                if (size < leastSize) {
                    leastSize = size;
                    best = level;
                }
            }
            carry(LAST_LEVEL, best);
            return best;
        }

        void settleAll() {
            for (int level = 0; level < INPUTS; level++) {
                waiting[inputs[level]] = asksAt[level];
            }
            for (int turn = 0; turn < INPUTS; turn++) {
                int k = nextWaiting();
                waiting[k] = NONE;
                settle(k);
            }
        }

        private int nextWaiting() {
            int next = 0;
            for (int k = 1; k < INPUTS; k++) {
                if (waiting[k] > waiting[next]) {
                    next = k;
                }
            }
            return next;
        }
    }
}
