/**
 * Functions of ten inputs, with the diagrams of questions that they have in an
 * order of the inputs which can be changed while they are kept.
 */
public final class DiagramHouse {
    public static final int NONE = -1;

    private static final int INPUTS = 10;
    private static final int PLACES = 24;
    private static final int WAYS = 1 << INPUTS;

    private static final int AND = 0;
    private static final int OR = 1;
    private static final int XOR = 2;
    private static final int IMPLIES = 3;
    private static final int SAME = 4;
    private static final int WITHOUT = 5;
    private static final int KINDS = 6;

    private final Functions functions;
    private final Diagrams diagrams;

    public DiagramHouse() {
        functions = new Functions();
        diagrams = new Diagrams(functions);
    }

    public void constant(int p, int v) throws IndexOutOfBoundsException, IllegalArgumentException {
        needPlace(p);
        needTruth(v);
        functions.setAll(p, v);
        diagrams.functionChanged(p);
    }

    public void input(int p, int k) throws IndexOutOfBoundsException, IllegalArgumentException {
        needPlace(p);
        needInput(k);
        functions.setInput(p, k);
        diagrams.functionChanged(p);
    }

    public void make(int p, int kind, int q, int r) throws IndexOutOfBoundsException, IllegalArgumentException {
        needPlace(p);
        needPlace(q);
        needPlace(r);
        needBelow(kind, KINDS);
        functions.join(p, kind, q, r);
        diagrams.functionChanged(p);
    }

    public void choose(int p, int q, int r, int s) throws IndexOutOfBoundsException {
        needPlace(p);
        needPlace(q);
        needPlace(r);
        needPlace(s);
        functions.select(p, q, r, s);
        diagrams.functionChanged(p);
    }

    public void fix(int p, int q, int k, int v) throws IndexOutOfBoundsException, IllegalArgumentException {
        needPlace(p);
        needPlace(q);
        needInput(k);
        needTruth(v);
        functions.restrict(p, q, k, v);
        diagrams.functionChanged(p);
    }

    public void compose(int p, int q, int k, int r) throws IndexOutOfBoundsException, IllegalArgumentException {
        needPlace(p);
        needPlace(q);
        needPlace(r);
        needInput(k);
        functions.replace(p, q, k, r);
        diagrams.functionChanged(p);
    }

    public void quantify(int p, int q, int set, boolean every)
            throws IndexOutOfBoundsException, IllegalArgumentException {
        needPlace(p);
        needPlace(q);
        needBelow(set, WAYS);
        functions.project(p, q, q, set, every);
        diagrams.functionChanged(p);
    }

    public void meet(int p, int q, int r, int set) throws IndexOutOfBoundsException, IllegalArgumentException {
        needPlace(p);
        needPlace(q);
        needPlace(r);
        needBelow(set, WAYS);
        functions.project(p, q, r, set, false);
        diagrams.functionChanged(p);
    }

    public int move(int k, int to) throws IllegalArgumentException {
        needInput(k);
        needBelow(to, INPUTS);
        return diagrams.moveTo(k, to);
    }

    public int sift(int k) throws IllegalArgumentException {
        needInput(k);
        return diagrams.settleOne(k);
    }

    public int siftAll() {
        return diagrams.settleAll();
    }

    public int order(int i) throws IndexOutOfBoundsException {
        if (i < 0 || i >= INPUTS) {
            throw new IndexOutOfBoundsException("no such place of the order");
        }
        return diagrams.inputAt(i);
    }

    public int size(int p) throws IndexOutOfBoundsException {
        if (p == NONE) {
            return diagrams.wholeSize();
        }
        needPlace(p);
        return diagrams.sizeOf(p);
    }

    public int count(int p) throws IndexOutOfBoundsException {
        needPlace(p);
        return functions.ones(p);
    }

    public boolean value(int p, int inputs) throws IndexOutOfBoundsException, IllegalArgumentException {
        needPlace(p);
        needBelow(inputs, WAYS);
        return functions.bit(p, inputs) == 1;
    }

    public int least(int p) throws IndexOutOfBoundsException {
        needPlace(p);
        return functions.firstOne(p);
    }

    public int support(int p) throws IndexOutOfBoundsException {
        needPlace(p);
        return functions.usedInputs(p);
    }

    public boolean alike(int p, int q) throws IndexOutOfBoundsException {
        needPlace(p);
        needPlace(q);
        return functions.areSame(p, q);
    }

    public int asked(int p, int inputs, int i) throws IndexOutOfBoundsException, IllegalArgumentException {
        needPlace(p);
        if (i < 0) {
            throw new IndexOutOfBoundsException("no such question");
        }
        needBelow(inputs, WAYS);
        return diagrams.questionOf(p, inputs, i);
    }

    public int questions(int k) throws IllegalArgumentException {
        needInput(k);
        return diagrams.questionsFor(k);
    }

    private static void needPlace(int p) {
        if (p < 0 || p >= PLACES) {
            throw new IndexOutOfBoundsException("no such place");
        }
    }

    private static void needInput(int k) {
        if (k < 0 || k >= INPUTS) {
            throw new IllegalArgumentException("no such input");
        }
    }

    private static void needTruth(int v) {
        if (v != 0 && v != 1) {
            throw new IllegalArgumentException("neither 0 nor 1");
        }
    }

    private static void needBelow(int number, int end) {
        if (number < 0 || number >= end) {
            throw new IllegalArgumentException("number out of range");
        }
    }

    /**
     * The function of each place as a table of 1024 bits, bit x for the inputs x, in
     * words of 64. Words that differ only in inputs which the function does not use are
     * alike, and only the first of such is kept: the others may hold anything.
     */
    private static final class Functions {
        static final int WORDS = 16;
        static final int LAST_WORD = WORDS - 1;
        /** Inputs below this one choose a bit of a word, the others choose the word. */
        static final int WORD_INPUTS = 6;

        /** For an input below WORD_INPUTS: the bits of a word at which it is 1. */
        static final long[] ONES = {
            0xAAAAAAAAAAAAAAAAL, 0xCCCCCCCCCCCCCCCCL, 0xF0F0F0F0F0F0F0F0L,
            0xFF00FF00FF00FF00L, 0xFFFF0000FFFF0000L, 0xFFFFFFFF00000000L};

        private final long[][] rows;
        /** All inputs that the function of a place uses, and perhaps more. */
        private final int[] mayUse;
        /** The places, a bit each, for which mayUse has no input too many. */
        private int sure;
        /** What is made is written here, as its place may be one of those it is made of. */
        private long[] spare;

        Functions() {
            rows = new long[PLACES][WORDS];
            mayUse = new int[PLACES];
            sure = (1 << PLACES) - 1;
            spare = new long[WORDS];
        }

        /** The number of a word without the bits of inputs that are not used. */
        private int keptWords(int p) {
            return mayUse[p] >> WORD_INPUTS;
        }

        private static int leftOut(int kept) {
            return LAST_WORD & ~kept;
        }

        long word(int p, int w) {
            return rows[p][w & keptWords(p)];
        }

        int bit(int p, int inputs) {
            return (int) (rows[p][inputs >> WORD_INPUTS & keptWords(p)] >>> inputs) & 1;
        }

        private void putSpare(int p, int used) {
            long[] row = rows[p];
            rows[p] = spare;
            spare = row;
            mayUse[p] = used;
            sure &= ~(1 << p);
        }

        void setAll(int p, int v) {
            rows[p][0] = v == 1 ? -1L : 0L;
            mayUse[p] = 0;
            sure |= 1 << p;
        }

        void setInput(int p, int k) {
            long[] row = rows[p];
            if (k < WORD_INPUTS) {
                row[0] = ONES[k];
            } else {
                row[0] = 0L;
                row[1 << (k - WORD_INPUTS)] = -1L;
            }
            mayUse[p] = 1 << k;
            sure |= 1 << p;
        }

        void join(int p, int kind, int q, int r) {
            long[] ofQ = rows[q];
            long[] ofR = rows[r];
            long[] joined = spare;
            int keptQ = keptWords(q);
            int keptR = keptWords(r);
            int left = leftOut(keptQ | keptR);
            for (int w = 0; w < WORDS; w = (w | left) + 1 & ~left) {
                long a = ofQ[w & keptQ];
                long b = ofR[w & keptR];
                switch (kind) {
                    case AND: joined[w] = a & b; break;
                    case OR: joined[w] = a | b; break;
                    case XOR: joined[w] = a ^ b; break;
                    case IMPLIES: joined[w] = ~a | b; break;
                    case SAME: joined[w] = ~(a ^ b); break;
                    default: joined[w] = a & ~b; break;
                }
            }
            putSpare(p, mayUse[q] | mayUse[r]);
        }

        void select(int p, int q, int r, int s) {
            long[] ofQ = rows[q];
            long[] ofR = rows[r];
            long[] ofS = rows[s];
            long[] selected = spare;
            int keptQ = keptWords(q);
            int keptR = keptWords(r);
            int keptS = keptWords(s);
            int left = leftOut(keptQ | keptR | keptS);
            for (int w = 0; w < WORDS; w = (w | left) + 1 & ~left) {
                long test = ofQ[w & keptQ];
                selected[w] = test & ofR[w & keptR] | ~test & ofS[w & keptS];
            }
            putSpare(p, mayUse[q] | mayUse[r] | mayUse[s]);
        }

        void restrict(int p, int q, int k, int v) {
            int used = mayUse[q] & ~(1 << k);
            if (k < WORD_INPUTS) {
                restrictWithinWords(q, k, v);
            } else {
                restrictWords(q, used, v << k & mayUse[q]);
            }
            putSpare(p, used);
        }

        private void restrictWithinWords(int q, int k, int v) {
            long[] row = rows[q];
            long[] restricted = spare;
            long ones = ONES[k];
            int shift = 1 << k;
            int left = leftOut(keptWords(q));
            for (int w = 0; w < WORDS; w = (w | left) + 1 & ~left) {
                long word = row[w];
                if (v == 1) {
                    word &= ones;
                    restricted[w] = word | word >>> shift;
                } else {
                    word &= ~ones;
                    restricted[w] = word | word << shift;
                }
            }
        }

        private void restrictWords(int q, int used, int ones) {
            long[] row = rows[q];
            long[] restricted = spare;
            int add = ones >> WORD_INPUTS;
            int left = leftOut(used >> WORD_INPUTS);
            for (int w = 0; w < WORDS; w = (w | left) + 1 & ~left) {
                restricted[w] = row[w | add];
            }
        }

        void replace(int p, int q, int k, int r) {
            if ((mayUse[q] >> k & 1) == 0) {
                restrict(p, q, k, 0);
                return;
            }
            int used = mayUse[q] & ~(1 << k) | mayUse[r];
            if (k < WORD_INPUTS) {
                replaceWithinWords(q, k, r);
            } else {
                replaceWords(q, 1 << (k - WORD_INPUTS), r, used);
            }
            putSpare(p, used);
        }

        private void replaceWithinWords(int q, int k, int r) {
            long[] ofQ = rows[q];
            long[] ofR = rows[r];
            long[] replaced = spare;
            int keptQ = keptWords(q);
            int keptR = keptWords(r);
            int left = leftOut(keptQ | keptR);
            long ones = ONES[k];
            int shift = 1 << k;
            for (int w = 0; w < WORDS; w = (w | left) + 1 & ~left) {
                long test = ofR[w & keptR];
                long one = ofQ[w & keptQ] & ones;
                long zero = ofQ[w & keptQ] & ~ones;
                replaced[w] = test & (one | one >>> shift) | ~test & (zero | zero << shift);
            }
        }

        private void replaceWords(int q, int step, int r, int used) {
            long[] ofQ = rows[q];
            long[] ofR = rows[r];
            long[] replaced = spare;
            int keptQ = keptWords(q) & ~step;
            int keptR = keptWords(r);
            int left = leftOut(used >> WORD_INPUTS);
            for (int w = 0; w < WORDS; w = (w | left) + 1 & ~left) {
                long test = ofR[w & keptR];
                replaced[w] = test & ofQ[w & keptQ | step] | ~test & ofQ[w & keptQ];
            }
        }

        /** "Every" is "some" with 0 and 1 changed before and behind it. */
        void project(int p, int q, int r, int set, boolean every) {
            int used = mayUse[q] | mayUse[r];
            int over = used & set;
            long[] projected = spare;
            long turn = every ? -1L : 0L;
            int left = leftOut((used & ~set) >> WORD_INPUTS);
            for (int w = 0; w < WORDS; w = (w | left) + 1 & ~left) {
                long some = someWords(q, r, w, over >> WORD_INPUTS, turn);
                projected[w] = someWithin(some, over) ^ turn;
            }
            putSpare(p, used & ~set);
        }

        private long someWords(int q, int r, int w, int steps, long turn) {
            long[] ofQ = rows[q];
            long[] ofR = rows[r];
            int keptQ = keptWords(q);
            int keptR = keptWords(r);
            int left = leftOut(steps);
            long some = 0L;
            for (int u = 0; u < WORDS; u = (u | left) + 1 & ~left) {
                some |= (ofQ[(w | u) & keptQ] ^ turn) & (ofR[(w | u) & keptR] ^ turn);
            }
            return some;
        }

        private static long someWithin(long word, int over) {
            long some = word;
            for (int k = 0; k < WORD_INPUTS; k++) {
                if ((over >> k & 1) == 1) {
                    int shift = 1 << k;
                    long zeros = (some | some >>> shift) & ~ONES[k];
                    some = zeros | zeros << shift;
                }
            }
            return some;
        }

        int ones(int p) {
            long[] row = rows[p];
            int left = leftOut(keptWords(p));
            int sum = 0;
            for (int w = 0; w < WORDS; w = (w | left) + 1 & ~left) {
                sum += Long.bitCount(row[w]);
            }
            return sum << Integer.bitCount(left);
        }

        int firstOne(int p) {
            long[] row = rows[p];
            int left = leftOut(keptWords(p));
            for (int w = 0; w < WORDS; w = (w | left) + 1 & ~left) {
                if (row[w] != 0L) {
                    return (w << WORD_INPUTS) + Long.numberOfTrailingZeros(row[w]);
                }
            }
            return NONE;
        }

        boolean areSame(int p, int q) {
            long[] ofP = rows[p];
            long[] ofQ = rows[q];
            int keptP = keptWords(p);
            int keptQ = keptWords(q);
            int left = leftOut(keptP | keptQ);
            for (int w = 0; w < WORDS; w = (w | left) + 1 & ~left) {
                if (ofP[w & keptP] != ofQ[w & keptQ]) {
                    return false;
                }
            }
            return true;
        }

        int usedInputs(int p) {
            if ((sure >> p & 1) == 0) {
                int used = mayUse[p];
                for (int k = 0; k < INPUTS; k++) {
                    if ((used >> k & 1) == 1 && !depends(p, k)) {
                        used &= ~(1 << k);
                    }
                }
                mayUse[p] = used;
                sure |= 1 << p;
            }
            return mayUse[p];
        }

        private boolean depends(int p, int k) {
            int left = leftOut(keptWords(p));
            return k < WORD_INPUTS ? dependsWithinWords(rows[p], left, k)
                : dependsOnWords(rows[p], left, 1 << (k - WORD_INPUTS));
        }

        private static boolean dependsWithinWords(long[] row, int left, int k) {
            long zeros = ~ONES[k];
            int shift = 1 << k;
            for (int w = 0; w < WORDS; w = (w | left) + 1 & ~left) {
                if (((row[w] ^ row[w] >>> shift) & zeros) != 0L) {
                    return true;
                }
            }
            return false;
        }

        private static boolean dependsOnWords(long[] row, int left, int step) {
            int leftOrStep = left | step;
            for (int w = 0; w < WORDS; w = (w | leftOrStep) + 1 & ~leftOrStep) {
                if (row[w] != row[w | step]) {
                    return true;
                }
            }
            return false;
        }

        /** For each input all those, itself too, that some function uses with it; 0 if none does. */
        void findMates(int[] mates) {
            for (int k = 0; k < INPUTS; k++) {
                mates[k] = 0;
            }
            for (int p = 0; p < PLACES; p++) {
                int used = mayUse[p];
                if ((used & used - 1) != 0) {
                    for (int rest = used; rest != 0; rest &= rest - 1) {
                        mates[Integer.numberOfTrailingZeros(rest)] |= used;
                    }
                }
            }
        }
    }

    /**
     * The questions of all diagrams as nodes. A node has an input and the numbers of the
     * nodes that come next for 0 and for 1, and there are no two nodes alike; 0 and 1 are
     * no questions but the answers. It is counted how many nodes and places lead to a
     * node, so that it goes when the last of them does.
     */
    private static final class Nodes {
        /** A node is one number: its input, the next node for 0, that for 1. */
        private static final int BITS = 13;
        private static final int MASK = (1 << BITS) - 1;
        private static final int INPUT_SHIFT = 2 * BITS;
        /**
         * Places have 3302 questions at most (24, twice as many for each input more, but
         * 240, 12 and 2 for the last three), one more function 269; changing neighbours
         * may need 1536 beside them for a while.
         */
        private static final int MOST_NODES = 1 << BITS;
        private static final int FIRST_NODES = 64;

        private static final int FIRST_HEAD_BITS = 2;
        private static final int MOST_HEAD_BITS = 8;
        private static final int INT_BITS = 32;
        /** Odd and without a pattern, so that the top bits of a product differ for near numbers. */
        private static final int SPREAD = 0x9E3779B1;
        /** The answers are led to as often as one likes, and never go. */
        private static final int ALWAYS = 1 << 30;

        private int[] nodes;
        private int[] leading;
        /** Nodes with the same head are a chain, and so are numbers that are free again. */
        private int[] next;
        private int[] seen;
        private int[] heads;
        private final int[] asks;
        private int headBits;
        private int free;
        private int fresh;
        private int size;
        private int looks;

        Nodes() {
            nodes = new int[FIRST_NODES];
            leading = new int[FIRST_NODES];
            next = new int[FIRST_NODES];
            seen = new int[FIRST_NODES];
            heads = new int[INPUTS << FIRST_HEAD_BITS];
            asks = new int[INPUTS];
            headBits = FIRST_HEAD_BITS;
            nodes[0] = INPUTS << INPUT_SHIFT;
            nodes[1] = INPUTS << INPUT_SHIFT;
            leading[0] = ALWAYS;
            leading[1] = ALWAYS;
            free = 0;
            fresh = 2;
            size = 0;
            looks = 0;
        }

        int size() {
            return size;
        }

        int asksFor(int k) {
            return asks[k];
        }

        /** Becomes as another one is, to stay so or to be changed apart from it. */
        void become(Nodes other) {
            if (nodes.length < other.nodes.length) {
                nodes = new int[other.nodes.length];
                leading = new int[other.nodes.length];
                next = new int[other.nodes.length];
                seen = new int[other.nodes.length];
            }
            if (headBits != other.headBits) {
                headBits = other.headBits;
                heads = new int[INPUTS << headBits];
            }
            free = other.free;
            fresh = other.fresh;
            size = other.size;
            System.arraycopy(other.nodes, 0, nodes, 0, fresh);
            System.arraycopy(other.leading, 0, leading, 0, fresh);
            System.arraycopy(other.next, 0, next, 0, fresh);
            System.arraycopy(other.heads, 0, heads, 0, INPUTS << headBits);
            System.arraycopy(other.asks, 0, asks, 0, INPUTS);
        }

        /** The node with this input and these next ones; one without a question is its next one. */
        int nodeFor(int k, int zero, int one) {
            if (zero == one) {
                return zero;
            }
            int wanted = k << INPUT_SHIFT | zero << BITS | one;
            int head = (k << headBits) + (wanted * SPREAD >>> INT_BITS - headBits);
            int n = heads[head];
            for (int steps = 0; n != 0 && steps < MOST_NODES; steps++) {
                if (nodes[n] == wanted) {
                    return n;
                }
                n = next[n];
            }
            return entered(wanted, head);
        }

        private int entered(int node, int head) {
            int n = free;
            if (n != 0) {
                free = next[n];
            } else {
                n = fresh;
                if (n >= nodes.length) {
                    grow();
                }
                if (n >= nodes.length) {
                    return 0;
                }
                fresh++;
            }
            nodes[n] = node;
            leading[n] = 0;
            next[n] = heads[head];
            heads[head] = n;
            leading[node >>> BITS & MASK]++;
            leading[node & MASK]++;
            asks[node >>> INPUT_SHIFT]++;
            size++;
            return n;
        }

        private void grow() {
            int length = Math.min(2 * nodes.length, MOST_NODES);
            nodes = lengthened(nodes, length);
            leading = lengthened(leading, length);
            next = lengthened(next, length);
            seen = lengthened(seen, length);
        }

        private static int[] lengthened(int[] row, int length) {
            int[] longer = new int[length];
            System.arraycopy(row, 0, longer, 0, row.length);
            return longer;
        }

        /** Shortens the chains if there are many nodes; not while one of them is gone through. */
        void shortenChains() {
            if (size <= INPUTS << headBits + 1 || headBits >= MOST_HEAD_BITS) {
                return;
            }
            int[] longChains = heads;
            headBits += 2;
            heads = new int[INPUTS << headBits];
            for (int head = 0; head < longChains.length; head++) {
                int n = longChains[head];
                for (int steps = 0; n != 0 && steps < MOST_NODES; steps++) {
                    int following = next[n];
                    link(n);
                    n = following;
                }
            }
        }

        private int headOf(int node) {
            return (node >>> INPUT_SHIFT << headBits) + (node * SPREAD >>> INT_BITS - headBits);
        }

        private void link(int n) {
            int head = headOf(nodes[n]);
            next[n] = heads[head];
            heads[head] = n;
        }

        private void unlink(int n) {
            int head = headOf(nodes[n]);
            int m = heads[head];
            if (m == n) {
                heads[head] = next[n];
                return;
            }
            for (int steps = 0; m != 0 && steps < MOST_NODES; steps++) {
                int following = next[m];
                if (following == n) {
                    next[m] = next[n];
                    return;
                }
                m = following;
            }
        }

        void lead(int n) {
            leading[n]++;
        }

        /** Goes down one input at least with each call of itself. */
        void leadNoMore(int n, int depth) {
            leading[n]--;
            if (leading[n] == 0 && depth > 0) {
                int node = nodes[n];
                forget(n);
                leadNoMore(node >>> BITS & MASK, depth - 1);
                leadNoMore(node & MASK, depth - 1);
            }
        }

        private void forget(int n) {
            unlink(n);
            asks[nodes[n] >>> INPUT_SHIFT]--;
            size--;
            next[n] = free;
            free = n;
        }

        int sizeFrom(int root) {
            looks++;
            return unseenFrom(root, INPUTS);
        }

        private int unseenFrom(int n, int depth) {
            if (n < 2 || depth == 0 || seen[n] == looks) {
                return 0;
            }
            seen[n] = looks;
            int node = nodes[n];
            return 1 + unseenFrom(node >>> BITS & MASK, depth - 1) + unseenFrom(node & MASK, depth - 1);
        }

        int questionFrom(int root, int given, int i) {
            int n = root;
            for (int before = 0; before < INPUTS && n >= 2; before++) {
                int node = nodes[n];
                int k = node >>> INPUT_SHIFT;
                if (before == i) {
                    return k;
                }
                n = (given >> k & 1) == 1 ? node & MASK : node >>> BITS & MASK;
            }
            return NONE;
        }

        /** Input x came right before y, and comes right behind it then. */
        void change(int x, int y) {
            int taken = takeThoseBefore(x, y);
            if (taken != 0) {
                for (int more = 0; nodes.length - size < 2 * asks[x] + 2 && more < BITS; more++) {
                    grow();
                }
                turn(taken, x, y);
            }
        }

        /** Takes the nodes of x that lead to y out of their chains, and into one of their own. */
        private int takeThoseBefore(int x, int y) {
            int[] all = nodes;
            int[] following = next;
            int taken = 0;
            int end = x + 1 << headBits;
            for (int head = x << headBits; head < end; head++) {
                int before = 0;
                int n = heads[head];
                for (int steps = 0; n != 0 && steps < MOST_NODES; steps++) {
                    int then = following[n];
                    int node = all[n];
                    if (all[node & MASK] >>> INPUT_SHIFT != y && all[node >>> BITS & MASK] >>> INPUT_SHIFT != y) {
                        before = n;
                    } else {
                        if (before == 0) {
                            heads[head] = then;
                        } else {
                            following[before] = then;
                        }
                        following[n] = taken;
                        taken = n;
                    }
                    n = then;
                }
            }
            return taken;
        }

        /**
         * Nodes keep their numbers, as others lead to them: they ask y then, and x comes
         * next. The rows do not grow here, change() has seen to that.
         */
        private void turn(int taken, int x, int y) {
            int[] all = nodes;
            int[] lead = leading;
            int turned = 0;
            int n = taken;
            while (n != 0 && turned < MOST_NODES) {
                int then = next[n];
                int node = all[n];
                int zero = node >>> BITS & MASK;
                int one = node & MASK;
                int ofZero = all[zero];
                int ofOne = all[one];
                int newZero;
                int newOne;
                if (ofZero >>> INPUT_SHIFT != y) {
                    newZero = nodeFor(x, zero, ofOne >>> BITS & MASK);
                    newOne = nodeFor(x, zero, ofOne & MASK);
                } else if (ofOne >>> INPUT_SHIFT != y) {
                    newZero = nodeFor(x, ofZero >>> BITS & MASK, one);
                    newOne = nodeFor(x, ofZero & MASK, one);
                } else {
                    newZero = nodeFor(x, ofZero >>> BITS & MASK, ofOne >>> BITS & MASK);
                    newOne = nodeFor(x, ofZero & MASK, ofOne & MASK);
                }
                lead[newZero]++;
                lead[newOne]++;
                all[n] = y << INPUT_SHIFT | newZero << BITS | newOne;
                link(n);
                turned++;
                lead[zero]--;
                if (lead[zero] == 0) {
                    drop(zero);
                }
                lead[one]--;
                if (lead[one] == 0) {
                    drop(one);
                }
                n = then;
            }
            asks[x] -= turned;
            asks[y] += turned;
        }

        /** What came next has new nodes that lead to it, and so never goes with this one. */
        private void drop(int n) {
            int node = nodes[n];
            leading[node >>> BITS & MASK]--;
            leading[node & MASK]--;
            forget(n);
        }
    }

    /** Makes the nodes of a place's function from its table, from the last input to the first. */
    private static final class Drawing {
        /** With more inputs than these it is less work to put whole words in order. */
        private static final int MOST_BIT_INPUTS = 5;
        private static final int FOURS = 16;

        private final Functions functions;
        private final Nodes nodes;
        /** The inputs that are used, the last one of the order first. */
        private final int[] asking;
        private final int[] spots;
        private final int[] parts;
        private final long[] words;
        private final int[] wordParts;
        private final int[] bitOf;
        private final int[] inputOf;
        private final int[] fourParts;

        Drawing(Functions functions, Nodes nodes) {
            this.functions = functions;
            this.nodes = nodes;
            asking = new int[INPUTS];
            spots = new int[1 << MOST_BIT_INPUTS];
            parts = new int[1 << MOST_BIT_INPUTS];
            words = new long[Functions.WORDS];
            wordParts = new int[Functions.WORDS];
            bitOf = new int[INPUTS];
            inputOf = new int[INPUTS];
            fourParts = new int[FOURS];
        }

        int rootOf(int p, int[] order) {
            int used = functions.usedInputs(p);
            if (used == 0) {
                return functions.bit(p, 0);
            }
            if ((used & used - 1) == 0) {
                int zero = functions.bit(p, 0);
                return nodes.nodeFor(Integer.numberOfTrailingZeros(used), zero, 1 - zero);
            }
            int count = 0;
            for (int i = INPUTS - 1; i >= 0; i--) {
                if ((used >> order[i] & 1) == 1) {
                    asking[count] = order[i];
                    count++;
                }
            }
            return count <= MOST_BIT_INPUTS ? ofBits(p, count) : ofWords(p, count);
        }

        private int ofBits(int p, int count) {
            spots[0] = 0;
            parts[0] = functions.bit(p, 0);
            int length = 1;
            for (int i = 0; i < count; i++) {
                int step = 1 << asking[i];
                for (int x = 0; x < length; x++) {
                    int spot = spots[x] | step;
                    spots[length + x] = spot;
                    parts[length + x] = functions.bit(p, spot);
                }
                length *= 2;
            }
            return folded(parts, 0, count);
        }

        /** Two parts side by side become one that asks, for each of these inputs. */
        private int folded(int[] row, int from, int to) {
            int length = 1 << to - from;
            for (int i = from; i < to; i++) {
                length /= 2;
                for (int x = 0; x < length; x++) {
                    row[x] = nodes.nodeFor(asking[i], row[2 * x], row[2 * x + 1]);
                }
            }
            return row[0];
        }

        private int ofWords(int p, int count) {
            for (int w = 0; w < Functions.WORDS; w++) {
                words[w] = functions.word(p, w);
            }
            arrange(count);
            for (int four = 0; four < FOURS; four++) {
                fourParts[four] = NONE;
            }
            int end = 1 << count - Functions.WORD_INPUTS;
            for (int w = 0; w < end; w++) {
                wordParts[w] = ofWord(w);
            }
            return folded(wordParts, Functions.WORD_INPUTS, count);
        }

        private int ofWord(int w) {
            long word = words[w];
            for (int v = 0; v < w; v++) {
                if (words[v] == word) {
                    return wordParts[v];
                }
            }
            for (int x = 0; x < FOURS; x++) {
                parts[x] = ofFour((int) (word >>> 4 * x) & FOURS - 1);
            }
            return folded(parts, 2, Functions.WORD_INPUTS);
        }

        /** Only sixteen parts are there of the last two inputs, so they are kept while a place is drawn. */
        private int ofFour(int four) {
            if (fourParts[four] == NONE) {
                int zero = nodes.nodeFor(asking[0], four & 1, four >> 1 & 1);
                int one = nodes.nodeFor(asking[0], four >> 2 & 1, four >> 3);
                fourParts[four] = nodes.nodeFor(asking[1], zero, one);
            }
            return fourParts[four];
        }

        /** Puts the bits of the table so that input asking[b] has bit b of their numbers. */
        private void arrange(int count) {
            for (int k = 0; k < INPUTS; k++) {
                bitOf[k] = k;
                inputOf[k] = k;
            }
            for (int bit = 0; bit < count; bit++) {
                int from = bitOf[asking[bit]];
                if (from != bit) {
                    exchange(bit, from);
                    inputOf[from] = inputOf[bit];
                    bitOf[inputOf[from]] = from;
                }
            }
        }

        private void exchange(int low, int high) {
            if (high < Functions.WORD_INPUTS) {
                exchangeWithinWords(low, high);
            } else if (low < Functions.WORD_INPUTS) {
                exchangeAcrossWords(low, 1 << (high - Functions.WORD_INPUTS));
            } else {
                exchangeWords(1 << (low - Functions.WORD_INPUTS), 1 << (high - Functions.WORD_INPUTS));
            }
        }

        private void exchangeWithinWords(int low, int high) {
            long moving = Functions.ONES[low] & ~Functions.ONES[high];
            int shift = (1 << high) - (1 << low);
            for (int w = 0; w < Functions.WORDS; w++) {
                long word = words[w];
                long unlike = (word >>> shift ^ word) & moving;
                words[w] = word ^ unlike ^ unlike << shift;
            }
        }

        private void exchangeAcrossWords(int low, int step) {
            long moving = ~Functions.ONES[low];
            int shift = 1 << low;
            for (int w = 0; w < Functions.WORDS; w = (w | step) + 1 & ~step) {
                long unlike = (words[w] >>> shift ^ words[w | step]) & moving;
                words[w] ^= unlike << shift;
                words[w | step] ^= unlike;
            }
        }

        private void exchangeWords(int lowStep, int highStep) {
            int both = lowStep | highStep;
            for (int w = 0; w < Functions.WORDS; w = (w | both) + 1 & ~both) {
                long word = words[w | lowStep];
                words[w | lowStep] = words[w | highStep];
                words[w | highStep] = word;
            }
        }
    }

    /** The order, and the diagrams of the places in it. */
    private static final class Diagrams {
        private static final int LAST = INPUTS - 1;

        private final Functions functions;
        private final Nodes nodes;
        private final Drawing drawing;
        private final int[] order;
        private final int[] roots;
        /** The places whose functions have changed since they were drawn, a bit each. */
        private int changed;

        /** Inputs that no function has together pass one another without a change of nodes. */
        private final int[] mates;
        private boolean matesKnown;
        private final int[] turns;

        /** Of the input that is being moved: where it is among the others, and was best. */
        private int place;
        private int best;
        private int leastSize;
        private final Nodes starting;
        private final Nodes passed;
        /** The nodes as they were at the best place; null if they are so now. */
        private Nodes kept;

        Diagrams(Functions functions) {
            this.functions = functions;
            nodes = new Nodes();
            drawing = new Drawing(functions, nodes);
            order = new int[INPUTS];
            for (int i = 0; i < INPUTS; i++) {
                order[i] = i;
            }
            roots = new int[PLACES];
            changed = 0;
            mates = new int[INPUTS];
            matesKnown = true;
            turns = new int[INPUTS];
            starting = new Nodes();
            passed = new Nodes();
        }

        void functionChanged(int p) {
            changed |= 1 << p;
            matesKnown = false;
        }

        /** Drawing waits for the first call that needs it, as most calls ask the tables alone. */
        private int drawnRoot(int p) {
            if ((changed >> p & 1) == 1) {
                nodes.shortenChains();
                int root = drawing.rootOf(p, order);
                nodes.lead(root);
                nodes.leadNoMore(roots[p], INPUTS);
                roots[p] = root;
                changed &= ~(1 << p);
            }
            return roots[p];
        }

        private void drawAll() {
            for (int rest = changed; rest != 0; rest &= rest - 1) {
                drawnRoot(Integer.numberOfTrailingZeros(rest));
            }
        }

        int inputAt(int i) {
            return order[i];
        }

        int wholeSize() {
            drawAll();
            return nodes.size();
        }

        int sizeOf(int p) {
            return nodes.sizeFrom(drawnRoot(p));
        }

        int questionOf(int p, int given, int i) {
            return nodes.questionFrom(drawnRoot(p), given, i);
        }

        int questionsFor(int k) {
            drawAll();
            return nodes.asksFor(k);
        }

        private void prepareChanges() {
            drawAll();
            nodes.shortenChains();
            if (!matesKnown) {
                functions.findMates(mates);
                matesKnown = true;
            }
        }

        int moveTo(int k, int to) {
            prepareChanges();
            takeOut(k);
            for (int i = place; i < to; i++) {
                if (isMate(k, order[i])) {
                    nodes.change(k, order[i]);
                }
            }
            for (int i = place - 1; i >= to; i--) {
                if (isMate(k, order[i])) {
                    nodes.change(order[i], k);
                }
            }
            putIn(k, to);
            return nodes.size();
        }

        private boolean isMate(int k, int y) {
            return (mates[k] >> y & 1) == 1;
        }

        private void takeOut(int k) {
            place = 0;
            while (place < LAST && order[place] != k) {
                place++;
            }
            System.arraycopy(order, place + 1, order, place, LAST - place);
        }

        private void putIn(int k, int to) {
            System.arraycopy(order, to, order, to + 1, LAST - to);
            order[to] = k;
        }

        int settleOne(int k) {
            prepareChanges();
            return settle(k);
        }

        /** One without mates has the same size everywhere, so that the first place is best. */
        private int settle(int k) {
            takeOut(k);
            best = 0;
            if (mates[k] != 0) {
                int from = place;
                best = from;
                leastSize = nodes.size();
                starting.become(nodes);
                kept = starting;
                sink(k);
                if (place != from) {
                    nodes.become(starting);
                    place = from;
                }
                rise(k);
                if (kept != null && place != best) {
                    nodes.become(kept);
                }
            }
            putIn(k, best);
            return best;
        }

        /**
         * Goes down while that may be of use: a mate below has at least half as many
         * nodes when k has passed it, as each of its nodes is made of two then.
         */
        private void sink(int k) {
            int saving = nodes.asksFor(k) - 1;
            int toPass = 0;
            for (int i = place; i < LAST; i++) {
                if (isMate(k, order[i])) {
                    saving += nodes.asksFor(order[i]) / 2;
                    toPass++;
                }
            }
            while (place < LAST && toPass > 0 && nodes.size() - saving < leastSize) {
                int y = order[place];
                place++;
                if (isMate(k, y)) {
                    saving -= nodes.asksFor(y) / 2 + nodes.asksFor(k);
                    nodes.change(k, y);
                    saving += nodes.asksFor(k);
                    toPass--;
                    if (nodes.size() < leastSize) {
                        leastSize = nodes.size();
                        best = place;
                        passed.become(nodes);
                        kept = passed;
                    }
                }
            }
        }

        /** Goes up while that may be of use: of a mate above at least one node stays. */
        private void rise(int k) {
            int saving = nodes.asksFor(k) - 1;
            int toPass = 0;
            for (int i = 0; i < place; i++) {
                if (isMate(k, order[i])) {
                    saving += nodes.asksFor(order[i]) - 1;
                    toPass++;
                }
            }
            while (place > 0 && toPass > 0 && nodes.size() - saving <= leastSize) {
                place--;
                int y = order[place];
                if (isMate(k, y)) {
                    saving -= nodes.asksFor(y) - 1 + nodes.asksFor(k);
                    passUpwards(k, y);
                    saving += nodes.asksFor(k);
                    toPass--;
                }
                if (nodes.size() <= leastSize) {
                    leastSize = nodes.size();
                    best = place;
                }
            }
            if (toPass == 0 && nodes.size() <= leastSize) {
                place = 0;
                best = 0;
            }
        }

        private void passUpwards(int k, int y) {
            if (kept == null) {
                passed.become(nodes);
                kept = passed;
            }
            nodes.change(y, k);
            if (nodes.size() <= leastSize) {
                kept = null;
            }
        }

        int settleAll() {
            prepareChanges();
            int count = 0;
            for (int k = 0; k < INPUTS; k++) {
                if (nodes.asksFor(k) > 0) {
                    takeTurn(k, count);
                    count++;
                }
            }
            for (int i = 0; i < count; i++) {
                settle(turns[i]);
            }
            settleUnused();
            return nodes.size();
        }

        /** Behind those that have as many questions or more. */
        private void takeTurn(int k, int count) {
            int at = count;
            while (at > 0 && nodes.asksFor(turns[at - 1]) < nodes.asksFor(k)) {
                turns[at] = turns[at - 1];
                at--;
            }
            turns[at] = k;
        }

        /** Each in its turn comes to the first place, before those that came there earlier. */
        private void settleUnused() {
            int count = 0;
            for (int k = LAST; k >= 0; k--) {
                if (nodes.asksFor(k) == 0) {
                    turns[count] = k;
                    count++;
                }
            }
            for (int i = 0; i < INPUTS; i++) {
                if (nodes.asksFor(order[i]) > 0) {
                    turns[count] = order[i];
                    count++;
                }
            }
            System.arraycopy(turns, 0, order, 0, INPUTS);
        }
    }
}
