import java.util.ArrayList;
import java.util.HashMap;
import java.util.HashSet;
import java.util.List;
import java.util.Map;
import java.util.Set;

/**
 * The document's words put down as plainly as can be, with no diagram at all: a
 * function is its 1024 answers, and the questions are found by trying all inputs.
 */
final class PlainHouse {
    private static final int NONE = -1;

    private boolean[][] places = new boolean[24][1024];
    private final List<Integer> order = new ArrayList<>();
    /** What levelSize() has found for the functions as they are; it would take too long without. */
    private final Map<Integer, Integer> known = new HashMap<>();

    PlainHouse() {
        for (int k = 0; k < 10; k++) {
            order.add(k);
        }
    }

    private static void place(int... row) {
        for (int p : row) {
            if (p < 0 || p > 23) {
                throw new IndexOutOfBoundsException();
            }
        }
    }

    private static void within(int number, int last) {
        if (number < 0 || number > last) {
            throw new IllegalArgumentException();
        }
    }

    private void become(int p, boolean[] function) {
        places[p] = function;
        known.clear();
    }

    void constant(int p, int v) {
        place(p);
        within(v, 1);
        boolean[] f = new boolean[1024];
        for (int x = 0; x < 1024; x++) {
            f[x] = v == 1;
        }
        become(p, f);
    }

    void input(int p, int k) {
        place(p);
        within(k, 9);
        boolean[] f = new boolean[1024];
        for (int x = 0; x < 1024; x++) {
            f[x] = bit(x, k);
        }
        become(p, f);
    }

    private static boolean bit(int x, int k) {
        return (x & 1 << k) != 0;
    }

    private static int with(int x, int k, boolean v) {
        return v ? x | 1 << k : x & ~(1 << k);
    }

    void make(int p, int kind, int q, int r) {
        place(p, q, r);
        within(kind, 5);
        boolean[] f = new boolean[1024];
        for (int x = 0; x < 1024; x++) {
            boolean a = places[q][x];
            boolean b = places[r][x];
            f[x] = switch (kind) {
                case 0 -> a && b;
                case 1 -> a || b;
                case 2 -> a != b;
                case 3 -> !a || b;
                case 4 -> a == b;
                default -> a && !b;
            };
        }
        become(p, f);
    }

    void choose(int p, int q, int r, int s) {
        place(p, q, r, s);
        boolean[] f = new boolean[1024];
        for (int x = 0; x < 1024; x++) {
            f[x] = places[q][x] ? places[r][x] : places[s][x];
        }
        become(p, f);
    }

    void fix(int p, int q, int k, int v) {
        place(p, q);
        within(k, 9);
        within(v, 1);
        boolean[] f = new boolean[1024];
        for (int x = 0; x < 1024; x++) {
            f[x] = places[q][with(x, k, v == 1)];
        }
        become(p, f);
    }

    void compose(int p, int q, int k, int r) {
        place(p, q, r);
        within(k, 9);
        boolean[] f = new boolean[1024];
        for (int x = 0; x < 1024; x++) {
            f[x] = places[q][with(x, k, places[r][x])];
        }
        become(p, f);
    }

    void quantify(int p, int q, int set, boolean every) {
        place(p, q);
        within(set, 1023);
        become(p, quantified(places[q], set, every));
    }

    private static boolean[] quantified(boolean[] of, int set, boolean every) {
        boolean[] f = new boolean[1024];
        for (int x = 0; x < 1024; x++) {
            boolean some = false;
            boolean all = true;
            for (int y = 0; y < 1024; y++) {
                if (((x ^ y) & ~set) == 0) {
                    some |= of[y];
                    all &= of[y];
                }
            }
            f[x] = every ? all : some;
        }
        return f;
    }

    void meet(int p, int q, int r, int set) {
        place(p, q, r);
        within(set, 1023);
        boolean[] both = new boolean[1024];
        for (int x = 0; x < 1024; x++) {
            both[x] = places[q][x] && places[r][x];
        }
        become(p, quantified(both, set, false));
    }

    int move(int k, int to) {
        within(k, 9);
        within(to, 9);
        order.remove((Integer) k);
        order.add(to, k);
        return size(NONE);
    }

    int sift(int k) {
        within(k, 9);
        int best = 0;
        int least = Integer.MAX_VALUE;
        for (int to = 0; to < 10; to++) {
            int size = move(k, to);
            if (size < least) {
                least = size;
                best = to;
            }
        }
        move(k, best);
        return best;
    }

    int siftAll() {
        List<Integer> inputs = new ArrayList<>();
        Map<Integer, Integer> atFirst = new HashMap<>();
        for (int k = 0; k < 10; k++) {
            inputs.add(k);
            atFirst.put(k, questions(k));
        }
        inputs.sort((a, b) -> atFirst.get(b) - atFirst.get(a));
        for (int k : inputs) {
            sift(k);
        }
        return size(NONE);
    }

    int order(int i) {
        if (i < 0 || i > 9) {
            throw new IndexOutOfBoundsException();
        }
        return order.get(i);
    }

    int size(int p) {
        if (p != NONE) {
            place(p);
        }
        int above = 0;
        int sum = 0;
        for (int k : order) {
            sum += levelSize(p, above, k);
            above |= 1 << k;
        }
        return sum;
    }

    /** How many unlike questions of a place, or of all, ask k behind the inputs above. */
    private int levelSize(int p, int above, int k) {
        int key = (p + 1) << 20 | above << 10 | k;
        Integer before = known.get(key);
        if (before != null) {
            return before;
        }
        Set<String> left = new HashSet<>();
        for (int place = p == NONE ? 0 : p; place <= (p == NONE ? 23 : p); place++) {
            for (int asked = 0; asked < 1024; asked++) {
                if ((asked & ~above) == 0 && depends(places[place], above, asked, k)) {
                    left.add(leftOf(places[place], above, asked));
                }
            }
        }
        known.put(key, left.size());
        return left.size();
    }

    /** Goes through the inputs that are left only: x counts up in the bits outside of above. */
    private static boolean depends(boolean[] f, int above, int asked, int k) {
        int x = 0;
        do {
            if (f[asked | x] != f[asked | x ^ 1 << k]) {
                return true;
            }
            x = (x | above) + 1 & ~above & 1023;
        } while (x != 0);
        return false;
    }

    /** Fifteen answers a character, behind a 1: shorter texts, as there are very many of them. */
    private static String leftOf(boolean[] f, int above, int asked) {
        StringBuilder text = new StringBuilder();
        int packed = 1;
        int x = 0;
        do {
            packed = packed << 1 | (f[asked | x] ? 1 : 0);
            if (packed >= 1 << 15) {
                text.append((char) packed);
                packed = 1;
            }
            x = (x | above) + 1 & ~above & 1023;
        } while (x != 0);
        return text.append((char) packed).toString();
    }

    int count(int p) {
        place(p);
        int sum = 0;
        for (boolean one : places[p]) {
            sum += one ? 1 : 0;
        }
        return sum;
    }

    boolean value(int p, int inputs) {
        place(p);
        within(inputs, 1023);
        return places[p][inputs];
    }

    int least(int p) {
        place(p);
        for (int x = 0; x < 1024; x++) {
            if (places[p][x]) {
                return x;
            }
        }
        return NONE;
    }

    int support(int p) {
        place(p);
        int set = 0;
        for (int k = 0; k < 10; k++) {
            if (depends(places[p], 0, 0, k)) {
                set |= 1 << k;
            }
        }
        return set;
    }

    boolean alike(int p, int q) {
        place(p, q);
        return java.util.Arrays.equals(places[p], places[q]);
    }

    int asked(int p, int inputs, int i) {
        place(p);
        if (i < 0) {
            throw new IndexOutOfBoundsException();
        }
        within(inputs, 1023);
        int above = 0;
        int before = 0;
        for (int k : order) {
            if (depends(places[p], above, inputs & above, k)) {
                if (before == i) {
                    return k;
                }
                before++;
            }
            above |= 1 << k;
        }
        return NONE;
    }

    int questions(int k) {
        within(k, 9);
        int above = 0;
        for (int other : order) {
            if (other == k) {
                break;
            }
            above |= 1 << other;
        }
        return levelSize(NONE, above, k);
    }
}
