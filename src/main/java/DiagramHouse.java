/**
 * Functions of ten inputs, with the diagrams of questions that they have in an
 * order of the inputs which can be changed while they are kept.
 */
public final class DiagramHouse {
    public static final int NONE = -1;

    private static final int INPUTS = 10;
    private static final int PLACES = 24;
    private static final int ALL_PLACES = (1 << PLACES) - 1;
    private static final int WAYS = 1 << INPUTS;

    private static final int AND = 0;
    private static final int OR = 1;
    private static final int XOR = 2;
    private static final int IMPLIES = 3;
    private static final int SAME = 4;
    private static final int WITHOUT = 5;
    private static final int KINDS = 6;

    private final Functions functions;
    private final Diagrams diagrams;

    public DiagramHouse() {
        functions = new Functions();
        diagrams = new Diagrams(functions);
    }

    public void constant(int p, int v) throws IndexOutOfBoundsException, IllegalArgumentException {
        needPlace(p);
        needTruth(v);
        functions.setAll(p, v);
        diagrams.functionChanged(p);
    }

    public void input(int p, int k) throws IndexOutOfBoundsException, IllegalArgumentException {
        needPlace(p);
        needInput(k);
        functions.setInput(p, k);
        diagrams.functionChanged(p);
    }

    public void make(int p, int kind, int q, int r) throws IndexOutOfBoundsException, IllegalArgumentException {
        needPlaces(p, q, r);
        needBelow(kind, KINDS);
        functions.join(p, kind, q, r);
        diagrams.functionChanged(p);
    }

    public void choose(int p, int q, int r, int s) throws IndexOutOfBoundsException {
        needPlaces(p, q, r);
        needPlace(s);
        functions.select(p, q, r, s);
        diagrams.functionChanged(p);
    }

    public void fix(int p, int q, int k, int v) throws IndexOutOfBoundsException, IllegalArgumentException {
        needPlaces(p, q, q);
        needInput(k);
        needTruth(v);
        functions.restrict(p, q, k, v);
        diagrams.functionChanged(p);
    }

    public void compose(int p, int q, int k, int r) throws IndexOutOfBoundsException, IllegalArgumentException {
        needPlaces(p, q, r);
        needInput(k);
        functions.replace(p, q, k, r);
        diagrams.functionChanged(p);
    }

    public void quantify(int p, int q, int set, boolean every)
            throws IndexOutOfBoundsException, IllegalArgumentException {
        needPlaces(p, q, q);
        needBelow(set, WAYS);
        functions.project(p, q, q, set, every);
        diagrams.functionChanged(p);
    }

    public void meet(int p, int q, int r, int set) throws IndexOutOfBoundsException, IllegalArgumentException {
        needPlaces(p, q, r);
        needBelow(set, WAYS);
        functions.project(p, q, r, set, false);
        diagrams.functionChanged(p);
    }

    public int move(int k, int to) throws IllegalArgumentException {
        needInput(k);
        needBelow(to, INPUTS);
        diagrams.draw(ALL_PLACES);
        diagrams.moveTo(k, to);
        return diagrams.wholeSize();
    }

    public int sift(int k) throws IllegalArgumentException {
        needInput(k);
        diagrams.draw(ALL_PLACES);
        return diagrams.settle(k);
    }

    public int siftAll() {
        diagrams.draw(ALL_PLACES);
        int turns = diagrams.takeTurns();
        for (int turn = 0; turn < turns; turn++) {
            diagrams.settle(diagrams.inputWithTurn(turn));
        }
        diagrams.settleUnused();
        return diagrams.wholeSize();
    }

    public int order(int i) throws IndexOutOfBoundsException {
        if (i < 0 || i >= INPUTS) {
            throw new IndexOutOfBoundsException("no such place of the order");
        }
        return diagrams.inputAt(i);
    }

    public int size(int p) throws IndexOutOfBoundsException {
        if (p == NONE) {
            diagrams.draw(ALL_PLACES);
            return diagrams.wholeSize();
        }
        needPlace(p);
        diagrams.draw(1 << p);
        return diagrams.sizeOf(p);
    }

    public int count(int p) throws IndexOutOfBoundsException {
        needPlace(p);
        return functions.ones(p);
    }

    public boolean value(int p, int inputs) throws IndexOutOfBoundsException, IllegalArgumentException {
        needPlace(p);
        needBelow(inputs, WAYS);
        return functions.bit(p, inputs) == 1;
    }

    public int least(int p) throws IndexOutOfBoundsException {
        needPlace(p);
        return functions.firstOne(p);
    }

    public int support(int p) throws IndexOutOfBoundsException {
        needPlace(p);
        return functions.usedInputs(p);
    }

    public boolean alike(int p, int q) throws IndexOutOfBoundsException {
        needPlaces(p, q, q);
        return functions.areSame(p, q);
    }

    public int asked(int p, int inputs, int i) throws IndexOutOfBoundsException, IllegalArgumentException {
        needPlace(p);
        if (i < 0) {
            throw new IndexOutOfBoundsException("no such question");
        }
        needBelow(inputs, WAYS);
        diagrams.draw(1 << p);
        return diagrams.questionOf(p, inputs, i);
    }

    public int questions(int k) throws IllegalArgumentException {
        needInput(k);
        diagrams.draw(ALL_PLACES);
        return diagrams.questionsFor(k);
    }

    private static void needPlace(int p) {
        if (p < 0 || p >= PLACES) {
            throw new IndexOutOfBoundsException("no such place");
        }
    }

    private static void needPlaces(int p, int q, int r) {
        if (p < 0 || p >= PLACES || q < 0 || q >= PLACES || r < 0 || r >= PLACES) {
            throw new IndexOutOfBoundsException("no such place");
        }
    }

    private static void needInput(int k) {
        if (k < 0 || k >= INPUTS) {
            throw new IllegalArgumentException("no such input");
        }
    }

    private static void needTruth(int v) {
        if (v != 0 && v != 1) {
            throw new IllegalArgumentException("neither 0 nor 1");
        }
    }

    private static void needBelow(int number, int end) {
        if (number < 0 || number >= end) {
            throw new IllegalArgumentException("number out of range");
        }
    }

    /**
     * The function of each place as a table of 1024 bits, bit x for the inputs x, in
     * words of 64. Words that differ only in inputs which the function does not use are
     * alike, and only the first of such is kept: the others may hold anything.
     */
    private static final class Functions {
        static final int WORDS = 16;
        static final int LAST_WORD = WORDS - 1;
        /** Inputs below this one choose a bit of a word, the others choose the word. */
        static final int WORD_INPUTS = 6;
        private static final int WORD_SET = (1 << WORD_INPUTS) - 1;

        /** For an input below WORD_INPUTS: the bits of a word at which it is 1. */
        static final long[] ONES = {
            0xAAAAAAAAAAAAAAAAL, 0xCCCCCCCCCCCCCCCCL, 0xF0F0F0F0F0F0F0F0L,
            0xFF00FF00FF00FF00L, 0xFFFF0000FFFF0000L, 0xFFFFFFFF00000000L};

        private final long[][] rows;
        /** All inputs that the function of a place uses, and perhaps more. */
        private final int[] mayUse;
        /** The places, a bit each, for which mayUse has no input too many. */
        private int sure;
        /** The places that use two inputs or more, a bit each, as far as mayUse is sure. */
        private int broad;
        /** What is made is written here, as its place may be one of those it is made of. */
        private long[] spare;

        Functions() {
            rows = new long[PLACES][WORDS];
            mayUse = new int[PLACES];
            sure = ALL_PLACES;
            broad = 0;
            spare = new long[WORDS];
        }

        /** The number of a word without the bits of inputs that are not used. */
        private int keptWords(int p) {
            return mayUse[p] >> WORD_INPUTS;
        }

        /**
         * The bits that are 0 in the number of each word that is kept. With them filled in,
         * adding one goes on to the next such number, up to WORDS behind the last one.
         */
        private static int leftOut(int kept) {
            return LAST_WORD & ~kept;
        }

        long word(int p, int w) {
            return rows[p][w & keptWords(p)];
        }

        int bit(int p, int inputs) {
            return (int) (rows[p][inputs >> WORD_INPUTS & keptWords(p)] >>> inputs) & 1;
        }

        private void putSpare(int p, int used) {
            long[] row = rows[p];
            rows[p] = spare;
            spare = row;
            mayUse[p] = used;
            sure &= ~(1 << p);
        }

        private void beSure(int p, int used) {
            mayUse[p] = used;
            sure |= 1 << p;
            broad = (used & used - 1) == 0 ? broad & ~(1 << p) : broad | 1 << p;
        }

        void setAll(int p, int v) {
            rows[p][0] = v == 1 ? -1L : 0L;
            beSure(p, 0);
        }

        void setInput(int p, int k) {
            long[] row = rows[p];
            if (k < WORD_INPUTS) {
                row[0] = ONES[k];
            } else {
                row[0] = 0L;
                row[1 << (k - WORD_INPUTS)] = -1L;
            }
            beSure(p, 1 << k);
        }

        void join(int p, int kind, int q, int r) {
            long[] ofQ = rows[q];
            long[] ofR = rows[r];
            long[] joined = spare;
            int keptQ = keptWords(q);
            int keptR = keptWords(r);
            int left = leftOut(keptQ | keptR);
            for (int w = 0; w < WORDS; w = (w | left) + 1 & ~left) {
                long a = ofQ[w & keptQ];
                long b = ofR[w & keptR];
                switch (kind) {
                    case AND: joined[w] = a & b; break;
                    case OR: joined[w] = a | b; break;
                    case XOR: joined[w] = a ^ b; break;
                    case IMPLIES: joined[w] = ~a | b; break;
                    case SAME: joined[w] = ~(a ^ b); break;
                    case WITHOUT:
                    default: joined[w] = a & ~b; break;
                }
            }
            putSpare(p, mayUse[q] | mayUse[r]);
        }

        void select(int p, int q, int r, int s) {
            long[] ofQ = rows[q];
            long[] ofR = rows[r];
            long[] ofS = rows[s];
            long[] selected = spare;
            int keptQ = keptWords(q);
            int keptR = keptWords(r);
            int keptS = keptWords(s);
            int left = leftOut(keptQ | keptR | keptS);
            for (int w = 0; w < WORDS; w = (w | left) + 1 & ~left) {
                long test = ofQ[w & keptQ];
                selected[w] = test & ofR[w & keptR] | ~test & ofS[w & keptS];
            }
            putSpare(p, mayUse[q] | mayUse[r] | mayUse[s]);
        }

        void restrict(int p, int q, int k, int v) {
            int used = mayUse[q] & ~(1 << k);
            if (k < WORD_INPUTS) {
                restrictWithinWords(q, k, v);
            } else {
                restrictWords(q, used, v << k & mayUse[q]);
            }
            putSpare(p, used);
        }

        private void restrictWithinWords(int q, int k, int v) {
            long[] row = rows[q];
            long[] restricted = spare;
            long ones = ONES[k];
            int shift = 1 << k;
            int left = leftOut(keptWords(q));
            for (int w = 0; w < WORDS; w = (w | left) + 1 & ~left) {
                long word = row[w];
                if (v == 1) {
                    word &= ones;
                    restricted[w] = word | word >>> shift;
                } else {
                    word &= ~ones;
                    restricted[w] = word | word << shift;
                }
            }
        }

        private void restrictWords(int q, int used, int ones) {
            long[] row = rows[q];
            long[] restricted = spare;
            int add = ones >> WORD_INPUTS;
            int left = leftOut(used >> WORD_INPUTS);
            for (int w = 0; w < WORDS; w = (w | left) + 1 & ~left) {
                restricted[w] = row[w | add];
            }
        }

        void replace(int p, int q, int k, int r) {
            if ((mayUse[q] >> k & 1) == 0) {
                restrict(p, q, k, 0);
                return;
            }
            int used = mayUse[q] & ~(1 << k) | mayUse[r];
            if (k < WORD_INPUTS) {
                replaceWithinWords(q, k, r);
            } else {
                replaceWords(q, 1 << (k - WORD_INPUTS), r, used);
            }
            putSpare(p, used);
        }

        private void replaceWithinWords(int q, int k, int r) {
            long[] ofQ = rows[q];
            long[] ofR = rows[r];
            long[] replaced = spare;
            int keptQ = keptWords(q);
            int keptR = keptWords(r);
            int left = leftOut(keptQ | keptR);
            long ones = ONES[k];
            int shift = 1 << k;
            for (int w = 0; w < WORDS; w = (w | left) + 1 & ~left) {
                long test = ofR[w & keptR];
                long one = ofQ[w & keptQ] & ones;
                long zero = ofQ[w & keptQ] & ~ones;
                replaced[w] = test & (one | one >>> shift) | ~test & (zero | zero << shift);
            }
        }

        private void replaceWords(int q, int step, int r, int used) {
            long[] ofQ = rows[q];
            long[] ofR = rows[r];
            long[] replaced = spare;
            int keptQ = keptWords(q) & ~step;
            int keptR = keptWords(r);
            int left = leftOut(used >> WORD_INPUTS);
            for (int w = 0; w < WORDS; w = (w | left) + 1 & ~left) {
                long test = ofR[w & keptR];
                replaced[w] = test & ofQ[w & keptQ | step] | ~test & ofQ[w & keptQ];
            }
        }

        /** "Every" is "some" with 0 and 1 changed before and behind it. */
        void project(int p, int q, int r, int set, boolean every) {
            int used = mayUse[q] | mayUse[r];
            int over = used & set;
            long[] projected = spare;
            long turn = every ? -1L : 0L;
            int left = leftOut((used & ~set) >> WORD_INPUTS);
            for (int w = 0; w < WORDS; w = (w | left) + 1 & ~left) {
                long some = someWords(q, r, w, over >> WORD_INPUTS, turn);
                projected[w] = someWithin(some, over) ^ turn;
            }
            putSpare(p, used & ~set);
        }

        private long someWords(int q, int r, int w, int steps, long turn) {
            long[] ofQ = rows[q];
            long[] ofR = rows[r];
            int keptQ = keptWords(q);
            int keptR = keptWords(r);
            int left = leftOut(steps);
            long some = 0L;
            for (int u = 0; u < WORDS; u = (u | left) + 1 & ~left) {
                some |= (ofQ[(w | u) & keptQ] ^ turn) & (ofR[(w | u) & keptR] ^ turn);
            }
            return some;
        }

        private static long someWithin(long word, int over) {
            long some = word;
            for (int rest = over & WORD_SET; rest != 0; rest &= rest - 1) {
                int k = Integer.numberOfTrailingZeros(rest);
                int shift = 1 << k;
                long zeros = (some | some >>> shift) & ~ONES[k];
                some = zeros | zeros << shift;
            }
            return some;
        }

        int ones(int p) {
            long[] row = rows[p];
            int left = leftOut(keptWords(p));
            int sum = 0;
            for (int w = 0; w < WORDS; w = (w | left) + 1 & ~left) {
                sum += Long.bitCount(row[w]);
            }
            return sum << Integer.bitCount(left);
        }

        int firstOne(int p) {
            long[] row = rows[p];
            int left = leftOut(keptWords(p));
            for (int w = 0; w < WORDS; w = (w | left) + 1 & ~left) {
                if (row[w] != 0L) {
                    return (w << WORD_INPUTS) + Long.numberOfTrailingZeros(row[w]);
                }
            }
            return NONE;
        }

        boolean areSame(int p, int q) {
            long[] ofP = rows[p];
            long[] ofQ = rows[q];
            int keptP = keptWords(p);
            int keptQ = keptWords(q);
            int left = leftOut(keptP | keptQ);
            for (int w = 0; w < WORDS; w = (w | left) + 1 & ~left) {
                if (ofP[w & keptP] != ofQ[w & keptQ]) {
                    return false;
                }
            }
            return true;
        }

        int usedInputs(int p) {
            if ((sure >> p & 1) == 0) {
                int used = mayUse[p];
                for (int rest = used; rest != 0; rest &= rest - 1) {
                    int k = Integer.numberOfTrailingZeros(rest);
                    if (!depends(p, k)) {
                        used &= ~(1 << k);
                    }
                }
                beSure(p, used);
            }
            return mayUse[p];
        }

        private boolean depends(int p, int k) {
            int left = leftOut(keptWords(p));
            return k < WORD_INPUTS ? dependsWithinWords(rows[p], left, k)
                : dependsOnWords(rows[p], left, 1 << (k - WORD_INPUTS));
        }

        private static boolean dependsWithinWords(long[] row, int left, int k) {
            long zeros = ~ONES[k];
            int shift = 1 << k;
            for (int w = 0; w < WORDS; w = (w | left) + 1 & ~left) {
                if (((row[w] ^ row[w] >>> shift) & zeros) != 0L) {
                    return true;
                }
            }
            return false;
        }

        private static boolean dependsOnWords(long[] row, int left, int step) {
            int leftOrStep = left | step;
            for (int w = 0; w < WORDS; w = (w | leftOrStep) + 1 & ~leftOrStep) {
                if (row[w] != row[w | step]) {
                    return true;
                }
            }
            return false;
        }

        /** For each input all those, itself too, that some function uses with it; 0 if none does. */
        void findMates(int[] mates) {
            for (int k = 0; k < INPUTS; k++) {
                mates[k] = 0;
            }
            for (int places = broad; places != 0; places &= places - 1) {
                int used = mayUse[Integer.numberOfTrailingZeros(places)];
                for (int rest = used; rest != 0; rest &= rest - 1) {
                    mates[Integer.numberOfTrailingZeros(rest)] |= used;
                }
            }
        }
    }

    /**
     * The questions of all diagrams as nodes. A node has an input and the numbers of the
     * nodes that come next for 0 and for 1, and there are no two nodes alike; 0 and 1 are
     * no questions but the answers. It is counted how many nodes and places lead to a
     * node, so that it goes when the last of them does.
     */
    private static final class Nodes {
        /** A node is one number: its input, the next node for 0, that for 1. */
        static final int BITS = 14;
        static final int MASK = (1 << BITS) - 1;
        static final int INPUT_SHIFT = 2 * BITS;
        /**
         * Far above need: all places have 3302 questions at most (24, twice as many for
         * each input more, but 240, 12 and 2 for the last three), and one function 269.
         * Changing neighbours may need 1536 more for a while, a trial 3302.
         */
        static final int MOST_NODES = 1 << BITS;
        static final int FIRST_NODES = 64;
        private static final int FIRST_MEMBERS = 8;
        static final int ANSWERS = 2;

        private static final int INT_BITS = 32;
        /** Odd and without a pattern, so that the top bits of a product differ for near numbers. */
        private static final int SPREAD = 0x9E3779B1;
        /** The answers are led to as often as one likes, and never go. */
        private static final int ALWAYS = 1 << 30;
        private static final int NO_NODE = 0;

        int[] nodes;
        int[] leading;
        /** For each input the nodes that ask it, as many as asks says. */
        final int[][] members;
        final int[] asks;
        private int[] memberAt;
        /** Nodes with the same head are a chain, and so are the numbers that are free again. */
        private int[] next;
        private int[] heads;
        private int headShift;
        private int free;
        /** This number and those above it have not been used. */
        int fresh;
        private int size;
        private int[] seen;
        private int looks;

        Nodes() {
            nodes = new int[FIRST_NODES];
            leading = new int[FIRST_NODES];
            members = new int[INPUTS][FIRST_MEMBERS];
            asks = new int[INPUTS];
            memberAt = new int[FIRST_NODES];
            next = new int[FIRST_NODES];
            heads = new int[FIRST_NODES];
            headShift = INT_BITS - Integer.numberOfTrailingZeros(FIRST_NODES);
            free = 0;
            fresh = ANSWERS;
            size = 0;
            seen = new int[FIRST_NODES];
            looks = 0;
            for (int answer = 0; answer < ANSWERS; answer++) {
                nodes[answer] = INPUTS << INPUT_SHIFT;
                leading[answer] = ALWAYS;
            }
        }

        int wholeSize() {
            return size;
        }

        int asksFor(int k) {
            return asks[k];
        }

        /** The rows are long enough then for that many numbers, the answers' too. */
        void makeRoomFor(int numbers) {
            int length = nodes.length;
            if (numbers <= length) {
                return;
            }
            while (length < numbers && length < MOST_NODES) {
                length *= 2;
            }
            nodes = lengthened(nodes, length);
            leading = lengthened(leading, length);
            memberAt = lengthened(memberAt, length);
            next = lengthened(next, length);
            seen = lengthened(seen, length);
            heads = new int[length];
            headShift = INT_BITS - Integer.numberOfTrailingZeros(length);
            for (int n = ANSWERS; n < fresh; n++) {
                if (nodes[n] != NO_NODE) {
                    link(n);
                }
            }
        }

        static int[] lengthened(int[] row, int length) {
            int[] longer = new int[length];
            System.arraycopy(row, 0, longer, 0, row.length);
            return longer;
        }

        /** The number of a node, 0 if it is not there. */
        private int found(int wanted) {
            int n = heads[wanted * SPREAD >>> headShift];
            for (int steps = 0; n != 0 && steps < MOST_NODES; steps++) {
                if (nodes[n] == wanted) {
                    return n;
                }
                n = next[n];
            }
            return 0;
        }

        /**
         * The node with this input and these next ones, which is the next one if that is
         * the same for 0 and 1. Nothing leads to one that was not there, as to free numbers.
         */
        int nodeFor(int k, int zero, int one) {
            if (zero == one) {
                return zero;
            }
            int wanted = k << INPUT_SHIFT | zero << BITS | one;
            int n = found(wanted);
            if (n == 0) {
                n = free != 0 ? free : fresh;
                if (n >= nodes.length) {
                    return zero;
                }
                if (n == free) {
                    free = next[n];
                } else {
                    fresh++;
                }
                nodes[n] = wanted;
                link(n);
                enlist(n, k);
                leading[zero]++;
                leading[one]++;
                size++;
            }
            return n;
        }

        private void enlist(int n, int k) {
            int count = asks[k];
            if (count >= members[k].length) {
                int[] longer = new int[2 * count];
                System.arraycopy(members[k], 0, longer, 0, count);
                members[k] = longer;
            }
            members[k][count] = n;
            memberAt[n] = count;
            asks[k] = count + 1;
        }

        private void link(int n) {
            int head = nodes[n] * SPREAD >>> headShift;
            next[n] = heads[head];
            heads[head] = n;
        }

        private void unlink(int n) {
            int head = nodes[n] * SPREAD >>> headShift;
            int m = heads[head];
            if (m == n) {
                heads[head] = next[n];
                return;
            }
            for (int steps = 0; m != 0 && steps < MOST_NODES; steps++) {
                int following = next[m];
                if (following == n) {
                    next[m] = next[n];
                    return;
                }
                m = following;
            }
        }

        void lead(int n) {
            leading[n]++;
        }

        void leadNoMore(int n) {
            leave(n, INPUTS);
        }

        /** A next node asks a later input, so that the depth of these calls is that of a diagram. */
        private void leave(int n, int depth) {
            leading[n]--;
            if (leading[n] == 0 && depth > 0) {
                int node = nodes[n];
                forget(n);
                leave(node >>> BITS & MASK, depth - 1);
                leave(node & MASK, depth - 1);
            }
        }

        private void forget(int n) {
            unlink(n);
            int k = nodes[n] >>> INPUT_SHIFT;
            int count = asks[k] - 1;
            int last = members[k][count];
            members[k][memberAt[n]] = last;
            memberAt[last] = memberAt[n];
            asks[k] = count;
            size--;
            nodes[n] = NO_NODE;
            next[n] = free;
            free = n;
        }

        int sizeFrom(int root) {
            looks++;
            return unseenFrom(root, INPUTS);
        }

        private int unseenFrom(int n, int depth) {
            if (n < ANSWERS || depth == 0 || seen[n] == looks) {
                return 0;
            }
            seen[n] = looks;
            int node = nodes[n];
            return 1 + unseenFrom(node >>> BITS & MASK, depth - 1) + unseenFrom(node & MASK, depth - 1);
        }

        int questionFrom(int root, int given, int i) {
            int n = root;
            for (int before = 0; before < INPUTS && n >= ANSWERS; before++) {
                int node = nodes[n];
                int k = node >>> INPUT_SHIFT;
                if (before == i) {
                    return k;
                }
                n = (given >> k & 1) == 1 ? node & MASK : node >>> BITS & MASK;
            }
            return NONE;
        }

        /** Input x came right before y, and comes right behind it then. */
        void change(int x, int y) {
            makeRoomFor(ANSWERS + size + 2 * asks[x]);
            int n = takeThoseBefore(x, y);
            for (int steps = 0; n != 0 && steps < MOST_NODES; steps++) {
                int following = next[n];
                turn(n, x, y);
                n = following;
            }
        }

        /** Takes the nodes of x that lead to y from the others; they are a chain of their own then. */
        private int takeThoseBefore(int x, int y) {
            int[] all = nodes;
            int[] row = members[x];
            int count = asks[x];
            int staying = 0;
            int taken = 0;
            for (int i = 0; i < count; i++) {
                int n = row[i];
                int node = all[n];
                if (all[node & MASK] >>> INPUT_SHIFT != y && all[node >>> BITS & MASK] >>> INPUT_SHIFT != y) {
                    row[staying] = n;
                    memberAt[n] = staying;
                    staying++;
                } else {
                    unlink(n);
                    next[n] = taken;
                    taken = n;
                }
            }
            asks[x] = staying;
            return taken;
        }

        /**
         * The node keeps its number, as others lead to it: it asks y then, and x comes next.
         * What a node of y that goes had led to does not go, as the new ones lead there.
         */
        private void turn(int n, int x, int y) {
            int[] all = nodes;
            int[] lead = leading;
            int zero = all[n] >>> BITS & MASK;
            int one = all[n] & MASK;
            int ofZero = all[zero];
            int ofOne = all[one];
            int newZero;
            int newOne;
            if (ofZero >>> INPUT_SHIFT != y) {
                newZero = nodeFor(x, zero, ofOne >>> BITS & MASK);
                newOne = nodeFor(x, zero, ofOne & MASK);
            } else if (ofOne >>> INPUT_SHIFT != y) {
                newZero = nodeFor(x, ofZero >>> BITS & MASK, one);
                newOne = nodeFor(x, ofZero & MASK, one);
            } else {
                newZero = nodeFor(x, ofZero >>> BITS & MASK, ofOne >>> BITS & MASK);
                newOne = nodeFor(x, ofZero & MASK, ofOne & MASK);
            }
            lead[newZero]++;
            lead[newOne]++;
            all[n] = y << INPUT_SHIFT | newZero << BITS | newOne;
            link(n);
            enlist(n, y);
            lead[zero]--;
            if (lead[zero] == 0) {
                lead[ofZero >>> BITS & MASK]--;
                lead[ofZero & MASK]--;
                forget(zero);
            }
            lead[one]--;
            if (lead[one] == 0) {
                lead[ofOne >>> BITS & MASK]--;
                lead[ofOne & MASK]--;
                forget(one);
            }
        }

        /**
         * As nodeFor(), but a node that was not there is only to be found, and is none of an
         * input's. Sifting does this more than all else, so that found() is written out here.
         */
        int triedFor(int k, int zero, int one) {
            if (zero == one) {
                return zero;
            }
            int wanted = k << INPUT_SHIFT | zero << BITS | one;
            int head = wanted * SPREAD >>> headShift;
            int n = heads[head];
            for (int steps = 0; n != 0 && steps < MOST_NODES; steps++) {
                if (nodes[n] == wanted) {
                    return n;
                }
                n = next[n];
            }
            n = fresh;
            if (n >= nodes.length) {
                return zero;
            }
            nodes[n] = wanted;
            next[n] = heads[head];
            heads[head] = n;
            fresh++;
            return n;
        }

        /** The last one that was tried is the first one of its chain, and so on backwards. */
        void forgetTried(int first) {
            for (int n = fresh - 1; n >= first; n--) {
                heads[nodes[n] * SPREAD >>> headShift] = next[n];
            }
            fresh = first;
        }
    }

    /**
     * Finds what the whole size would be with an input at other places of the order. It
     * goes through the nodes as if neighbours were changed and counts, but changes none:
     * most places are not the best one, and coming back from them would be as much work.
     */
    private static final class Trial {
        private static final int BITS = Nodes.BITS;
        private static final int MASK = Nodes.MASK;

        private final Nodes nodes;
        /** The number of the first node that is there for the trial alone. */
        private int first;
        private int asks;
        /** How many would lead to a node. */
        private int[] leading;
        /** Rising: whether a node depends on the input, and what it is for 0 and for 1 of it. */
        private int[] marks;
        private int mark;
        private int[] parts;
        /** Sinking: the nodes of the input, in a chain for the input that the next ones ask first. */
        private int[] next;
        private final int[] heads;
        private final int[] places;

        Trial(Nodes nodes) {
            this.nodes = nodes;
            leading = new int[Nodes.FIRST_NODES];
            marks = new int[Nodes.FIRST_NODES];
            mark = 0;
            parts = new int[Nodes.FIRST_NODES];
            next = new int[Nodes.FIRST_NODES];
            heads = new int[INPUTS + 1];
            places = new int[INPUTS + 1];
        }

        /** How many questions would ask the input. */
        int asks() {
            return asks;
        }

        private void fitNodes() {
            int length = nodes.nodes.length;
            if (leading.length < length) {
                leading = Nodes.lengthened(leading, length);
                marks = Nodes.lengthened(marks, length);
                parts = Nodes.lengthened(parts, length);
                next = Nodes.lengthened(next, length);
            }
        }

        private void start(int x) {
            first = nodes.fresh;
            asks = nodes.asks[x];
            System.arraycopy(nodes.leading, 0, leading, 0, first);
        }

        void end() {
            nodes.forgetTried(first);
        }

        void startRising(int x) {
            fitNodes();
            start(x);
            mark++;
            int[] row = nodes.members[x];
            for (int i = 0; i < asks; i++) {
                int n = row[i];
                marks[n] = mark;
                parts[n] = nodes.nodes[n];
            }
        }

        /** Input y came right before it, and would come right behind it: how the size would change. */
        int riseAbove(int y) {
            nodes.makeRoomFor(nodes.fresh + 2 * nodes.asks[y]);
            fitNodes();
            int[] all = nodes.nodes;
            int[] row = nodes.members[y];
            int[] marked = marks;
            int now = mark;
            int count = nodes.asks[y];
            int before = nodes.fresh;
            int gone = 0;
            for (int i = 0; i < count; i++) {
                int n = row[i];
                int zero = all[n] >>> BITS & MASK;
                int one = all[n] & MASK;
                boolean inZero = marked[zero] == now;
                boolean inOne = marked[one] == now;
                if (inZero || inOne) {
                    if (inZero) {
                        leading[zero]--;
                        if (leading[zero] == 0) {
                            gone++;
                        }
                    }
                    if (inOne) {
                        leading[one]--;
                        if (leading[one] == 0) {
                            gone++;
                        }
                    }
                    int ofZero = inZero ? parts[zero] : zero << BITS | zero;
                    int ofOne = inOne ? parts[one] : one << BITS | one;
                    int ifZero = nodes.triedFor(y, ofZero >>> BITS & MASK, ofOne >>> BITS & MASK);
                    int ifOne = nodes.triedFor(y, ofZero & MASK, ofOne & MASK);
                    marked[n] = now;
                    parts[n] = ifZero << BITS | ifOne;
                    asks++;
                }
            }
            asks -= gone;
            return nodes.fresh - before - gone;
        }

        void startSinking(int x, int[] order, int from) {
            fitNodes();
            start(x);
            for (int i = from; i < INPUTS - 1; i++) {
                places[order[i]] = i;
                heads[i] = 0;
            }
            places[INPUTS] = INPUTS;
            int[] row = nodes.members[x];
            for (int i = 0; i < asks; i++) {
                int node = nodes.nodes[row[i]];
                link(row[i], node >>> BITS & MASK, node & MASK);
            }
        }

        private void link(int n, int zero, int one) {
            int ofZero = places[nodes.nodes[zero] >>> Nodes.INPUT_SHIFT];
            int ofOne = places[nodes.nodes[one] >>> Nodes.INPUT_SHIFT];
            int head = ofZero < ofOne ? ofZero : ofOne;
            next[n] = heads[head];
            heads[head] = n;
        }

        /** Input y came right behind x, and would come right before it: how the size would change. */
        int sinkBelow(int x, int y) {
            nodes.makeRoomFor(nodes.fresh + 2 * asks);
            fitNodes();
            int[] all = nodes.nodes;
            int[] lead = leading;
            int before = nodes.fresh;
            int gone = 0;
            int turned = 0;
            int n = heads[places[y]];
            while (n != 0 && turned < Nodes.MOST_NODES) {
                int zero = all[n] >>> BITS & MASK;
                int one = all[n] & MASK;
                int ofZero = all[zero];
                int ofOne = all[one];
                if (ofZero >>> Nodes.INPUT_SHIFT != y) {
                    leadOn(x, zero, ofOne >>> BITS & MASK);
                    leadOn(x, zero, ofOne & MASK);
                } else if (ofOne >>> Nodes.INPUT_SHIFT != y) {
                    leadOn(x, ofZero >>> BITS & MASK, one);
                    leadOn(x, ofZero & MASK, one);
                } else {
                    leadOn(x, ofZero >>> BITS & MASK, ofOne >>> BITS & MASK);
                    leadOn(x, ofZero & MASK, ofOne & MASK);
                }
                lead[zero]--;
                if (lead[zero] == 0) {
                    lead[ofZero >>> BITS & MASK]--;
                    lead[ofZero & MASK]--;
                    gone++;
                }
                lead[one]--;
                if (lead[one] == 0) {
                    lead[ofOne >>> BITS & MASK]--;
                    lead[ofOne & MASK]--;
                    gone++;
                }
                turned++;
                n = next[n];
            }
            asks += nodes.fresh - before - turned;
            return nodes.fresh - before - gone;
        }

        /** A node of x that is there already leads to these two already. */
        private void leadOn(int x, int zero, int one) {
            int before = nodes.fresh;
            int n = nodes.triedFor(x, zero, one);
            if (n == before) {
                leading[zero]++;
                leading[one]++;
                link(n, zero, one);
            } else if (zero == one) {
                leading[zero]++;
            }
        }
    }

    /** Makes the nodes of a place's function from its table, from the last input to the first. */
    private static final class Drawing {
        /** With more inputs than these it is less work to put whole words in order. */
        private static final int MOST_BIT_INPUTS = 5;
        /** No function has more nodes: 1, 2, 4, .. 128, and 12 and 2 for the last two inputs. */
        private static final int MOST_OF_ONE = 269;
        private static final int FOURS = 16;

        private final Functions functions;
        private final Nodes nodes;
        /** The inputs that are used, the last one of the order first. */
        private final int[] asking;
        private final int[] spots;
        private final int[] parts;
        private final long[] words;
        private final int[] wordParts;
        private final int[] fourParts;
        private final int[] bitOf;
        private final int[] inputOf;

        Drawing(Functions functions, Nodes nodes) {
            this.functions = functions;
            this.nodes = nodes;
            asking = new int[INPUTS];
            spots = new int[1 << MOST_BIT_INPUTS];
            parts = new int[1 << MOST_BIT_INPUTS];
            words = new long[Functions.WORDS];
            wordParts = new int[Functions.WORDS];
            fourParts = new int[FOURS];
            bitOf = new int[INPUTS];
            inputOf = new int[INPUTS];
        }

        int rootOf(int p, int[] order) {
            int used = functions.usedInputs(p);
            int zero = functions.bit(p, 0);
            if (used == 0) {
                return zero;
            }
            int count = Integer.bitCount(used);
            nodes.makeRoomFor(Nodes.ANSWERS + nodes.wholeSize() + Math.min(1 << count, MOST_OF_ONE));
            if (count == 1) {
                return nodes.nodeFor(Integer.numberOfTrailingZeros(used), zero, 1 - zero);
            }
            int listed = 0;
            for (int i = INPUTS - 1; i >= 0; i--) {
                if ((used >> order[i] & 1) == 1) {
                    asking[listed] = order[i];
                    listed++;
                }
            }
            return count <= MOST_BIT_INPUTS ? ofBits(p, count) : ofWords(p, count);
        }

        private int ofBits(int p, int count) {
            spots[0] = 0;
            parts[0] = functions.bit(p, 0);
            int length = 1;
            for (int i = 0; i < count; i++) {
                int step = 1 << asking[i];
                for (int x = 0; x < length; x++) {
                    int spot = spots[x] | step;
                    spots[length + x] = spot;
                    parts[length + x] = functions.bit(p, spot);
                }
                length *= 2;
            }
            return folded(parts, 0, count);
        }

        /** Two parts side by side become one that asks, for each of these inputs. */
        private int folded(int[] row, int from, int to) {
            int length = 1 << to - from;
            for (int i = from; i < to; i++) {
                int k = asking[i];
                length /= 2;
                for (int x = 0; x < length; x++) {
                    row[x] = nodes.nodeFor(k, row[2 * x], row[2 * x + 1]);
                }
            }
            return row[0];
        }

        private int ofWords(int p, int count) {
            for (int w = 0; w < Functions.WORDS; w++) {
                words[w] = functions.word(p, w);
            }
            arrange(count);
            for (int four = 0; four < FOURS; four++) {
                fourParts[four] = NONE;
            }
            int end = 1 << count - Functions.WORD_INPUTS;
            for (int w = 0; w < end; w++) {
                int same = 0;
                while (same < w && words[same] != words[w]) {
                    same++;
                }
                if (same < w) {
                    wordParts[w] = wordParts[same];
                } else {
                    for (int x = 0; x < FOURS; x++) {
                        parts[x] = ofFour((int) (words[w] >>> 4 * x) & FOURS - 1);
                    }
                    wordParts[w] = folded(parts, 2, Functions.WORD_INPUTS);
                }
            }
            return folded(wordParts, Functions.WORD_INPUTS, count);
        }

        /** Only sixteen parts are there of the last two inputs, so they are kept while a place is drawn. */
        private int ofFour(int four) {
            if (fourParts[four] == NONE) {
                int zero = nodes.nodeFor(asking[0], four & 1, four >> 1 & 1);
                int one = nodes.nodeFor(asking[0], four >> 2 & 1, four >> 3);
                fourParts[four] = nodes.nodeFor(asking[1], zero, one);
            }
            return fourParts[four];
        }

        /** Puts the bits of the table so that input asking[b] has bit b of their numbers. */
        private void arrange(int count) {
            for (int k = 0; k < INPUTS; k++) {
                bitOf[k] = k;
                inputOf[k] = k;
            }
            for (int bit = 0; bit < count; bit++) {
                int from = bitOf[asking[bit]];
                if (from != bit) {
                    exchange(bit, from);
                    inputOf[from] = inputOf[bit];
                    bitOf[inputOf[from]] = from;
                }
            }
        }

        private void exchange(int low, int high) {
            if (high < Functions.WORD_INPUTS) {
                exchangeWithinWords(low, high);
            } else if (low < Functions.WORD_INPUTS) {
                exchangeAcrossWords(low, 1 << (high - Functions.WORD_INPUTS));
            } else {
                exchangeWords(1 << (low - Functions.WORD_INPUTS), 1 << (high - Functions.WORD_INPUTS));
            }
        }

        private void exchangeWithinWords(int low, int high) {
            long moving = Functions.ONES[low] & ~Functions.ONES[high];
            int shift = (1 << high) - (1 << low);
            for (int w = 0; w < Functions.WORDS; w++) {
                long word = words[w];
                long unlike = (word >>> shift ^ word) & moving;
                words[w] = word ^ unlike ^ unlike << shift;
            }
        }

        private void exchangeAcrossWords(int low, int step) {
            long moving = ~Functions.ONES[low];
            int shift = 1 << low;
            for (int w = 0; w < Functions.WORDS; w = (w | step) + 1 & ~step) {
                long unlike = (words[w] >>> shift ^ words[w | step]) & moving;
                words[w] ^= unlike << shift;
                words[w | step] ^= unlike;
            }
        }

        private void exchangeWords(int lowStep, int highStep) {
            int both = lowStep | highStep;
            for (int w = 0; w < Functions.WORDS; w = (w | both) + 1 & ~both) {
                long word = words[w | lowStep];
                words[w | lowStep] = words[w | highStep];
                words[w | highStep] = word;
            }
        }
    }

    /** The order, and the diagrams of the places in it. */
    private static final class Diagrams {
        private static final int LAST = INPUTS - 1;

        private final Functions functions;
        private final Nodes nodes;
        private final Drawing drawing;
        private final Trial trial;
        private final int[] order;
        private final int[] roots;
        /** The places whose functions have changed since they were drawn, a bit each. */
        private int changed;
        /** Inputs that no function has together pass one another without a change of nodes. */
        private final int[] mates;
        private boolean matesKnown;

        private final int[] turns;

        /** Of the input that is taken out of the order: where it was, and where it is best. */
        private int place;
        private int best;
        private int leastSize;

        Diagrams(Functions functions) {
            this.functions = functions;
            nodes = new Nodes();
            drawing = new Drawing(functions, nodes);
            trial = new Trial(nodes);
            order = new int[INPUTS];
            for (int i = 0; i < INPUTS; i++) {
                order[i] = i;
            }
            roots = new int[PLACES];
            changed = 0;
            mates = new int[INPUTS];
            matesKnown = true;
            turns = new int[INPUTS];
        }

        void functionChanged(int p) {
            changed |= 1 << p;
            matesKnown = false;
        }

        /**
         * Draws those of some places, a bit each, that are not drawn as their functions are.
         * This waits for a call that needs it, as most calls ask the tables alone.
         */
        void draw(int places) {
            for (int rest = changed & places; rest != 0; rest &= rest - 1) {
                int p = Integer.numberOfTrailingZeros(rest);
                int root = drawing.rootOf(p, order);
                nodes.lead(root);
                nodes.leadNoMore(roots[p]);
                roots[p] = root;
            }
            changed &= ~places;
        }

        int sizeOf(int p) {
            return nodes.sizeFrom(roots[p]);
        }

        int questionOf(int p, int given, int i) {
            return nodes.questionFrom(roots[p], given, i);
        }

        int inputAt(int i) {
            return order[i];
        }

        /** This and all that follows needs all places to be drawn. */
        int wholeSize() {
            return nodes.wholeSize();
        }

        int questionsFor(int k) {
            return nodes.asksFor(k);
        }

        void moveTo(int k, int to) {
            takeOut(k);
            if (nodes.asksFor(k) > 0) {
                pass(k, to, matesOf(k));
            }
            putIn(k, to);
        }

        private void takeOut(int k) {
            int[] row = order;
            int i = 0;
            while (i < LAST && row[i] != k) {
                i++;
            }
            System.arraycopy(row, i + 1, row, i, LAST - i);
            place = i;
        }

        private void putIn(int k, int to) {
            System.arraycopy(order, to, order, to + 1, LAST - to);
            order[to] = k;
        }

        private int matesOf(int k) {
            if (!matesKnown) {
                functions.findMates(mates);
                matesKnown = true;
            }
            return mates[k];
        }

        private void pass(int k, int to, int among) {
            for (int i = place; i < to; i++) {
                int y = order[i];
                if ((among >> y & 1) == 1) {
                    nodes.change(k, y);
                }
            }
            for (int i = place - 1; i >= to; i--) {
                int y = order[i];
                if ((among >> y & 1) == 1) {
                    nodes.change(y, k);
                }
            }
        }

        /** Without mates the size is the same everywhere, so that the first place is best. */
        int settle(int k) {
            takeOut(k);
            best = 0;
            int among = nodes.asksFor(k) > 0 ? matesOf(k) : 0;
            if (among != 0) {
                best = place;
                leastSize = nodes.wholeSize();
                rise(k, among);
                sink(k, among);
                pass(k, best, among);
            }
            putIn(k, best);
            return best;
        }

        /**
         * Tries the places before its own, of which the first of the best is wanted, while
         * one can be as good: of k and of each mate above it at least one node stays.
         */
        private void rise(int k, int among) {
            int saving = -1;
            int toPass = 0;
            for (int i = 0; i < place; i++) {
                int y = order[i];
                if ((among >> y & 1) == 1) {
                    saving += nodes.asksFor(y) - 1;
                    toPass++;
                }
            }
            int size = leastSize;
            if (toPass > 0) {
                trial.startRising(k);
                for (int i = place - 1; toPass > 0 && i >= 0 && size - saving - trial.asks() <= leastSize; i--) {
                    int y = order[i];
                    if ((among >> y & 1) == 1) {
                        size += trial.riseAbove(y);
                        saving -= nodes.asksFor(y) - 1;
                        toPass--;
                    }
                    if (size <= leastSize) {
                        leastSize = size;
                        best = i;
                    }
                }
                trial.end();
            }
            if (toPass == 0 && size <= leastSize) {
                best = 0;
            }
        }

        /**
         * Tries the places behind its own while one can be better: of k at least one node
         * stays, and of a mate below it half of them, as no more than two become one.
         */
        private void sink(int k, int among) {
            int saving = -1;
            int toPass = 0;
            for (int i = place; i < LAST; i++) {
                int y = order[i];
                if ((among >> y & 1) == 1) {
                    saving += nodes.asksFor(y) / 2;
                    toPass++;
                }
            }
            int size = nodes.wholeSize();
            if (toPass == 0 || size - saving - nodes.asksFor(k) >= leastSize) {
                return;
            }
            trial.startSinking(k, order, place);
            for (int i = place; toPass > 0 && i < LAST && size - saving - trial.asks() < leastSize; i++) {
                int y = order[i];
                if ((among >> y & 1) == 1) {
                    size += trial.sinkBelow(k, y);
                    saving -= nodes.asksFor(y) / 2;
                    toPass--;
                    if (size < leastSize) {
                        leastSize = size;
                        best = i + 1;
                    }
                }
            }
            trial.end();
        }

        /** Gives a turn to each input that is asked: to those with the most questions first. */
        int takeTurns() {
            int count = 0;
            for (int k = 0; k < INPUTS; k++) {
                int asks = nodes.asksFor(k);
                if (asks > 0) {
                    int i = count;
                    while (i > 0 && nodes.asksFor(turns[i - 1]) < asks) {
                        turns[i] = turns[i - 1];
                        i--;
                    }
                    turns[i] = k;
                    count++;
                }
            }
            return count;
        }

        int inputWithTurn(int turn) {
            return turns[turn];
        }

        /** Sifts those that are not asked: each comes to the first place, before the one with a turn earlier. */
        void settleUnused() {
            int count = 0;
            for (int k = LAST; k >= 0; k--) {
                if (nodes.asksFor(k) == 0) {
                    turns[count] = k;
                    count++;
                }
            }
            for (int i = 0; i < INPUTS; i++) {
                if (nodes.asksFor(order[i]) > 0) {
                    turns[count] = order[i];
                    count++;
                }
            }
            System.arraycopy(turns, 0, order, 0, INPUTS);
        }
    }
}
