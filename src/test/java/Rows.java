import java.util.ArrayList;
import java.util.List;

/** Rows of calls for Check.run() that several tests have, and the joining of such rows. */
final class Rows {
    static final String FIRST_ORDER = "0123456789";
    static final String NO_PLACE = " = throws.IndexOutOfBoundsException";
    static final String WRONG = " = throws.IllegalArgumentException";

    private Rows() {
    }

    /** Each part is a row or an array of rows. */
    static String[] join(Object... parts) {
        List<String> rows = new ArrayList<>();
        for (Object part : parts) {
            if (part instanceof String[] several) {
                rows.addAll(List.of(several));
            } else {
                rows.add((String) part);
            }
        }
        return rows.toArray(new String[0]);
    }

    static String[] repeat(int times, String... rows) {
        List<String> repeated = new ArrayList<>();
        for (int i = 0; i < times; i++) {
            repeated.addAll(List.of(rows));
        }
        return repeated.toArray(new String[0]);
    }

    /** Place p becomes all ten inputs joined by a kind of make(); place t is 0 then. */
    private static String[] joined(int p, int t, int kind) {
        List<String> rows = new ArrayList<>();
        rows.add("input(" + p + ", 0)");
        for (int k = 1; k < 10; k++) {
            rows.add("input(" + t + ", " + k + ")");
            rows.add("make(" + p + ", " + kind + ", " + p + ", " + t + ")");
        }
        rows.add("constant(" + t + ", 0)");
        return rows.toArray(new String[0]);
    }

    /** Place p is 1 for the inputs 1023 alone; place t is 0 then. */
    static String[] lastAlone(int p, int t) {
        return joined(p, t, 0);
    }

    /** Place p is 0 for the inputs 0 alone; place t is 0 then. */
    static String[] allButFirst(int p, int t) {
        return joined(p, t, 1);
    }

    /** Place p is 1 for the inputs 0 alone; place t is 0 then. */
    static String[] firstAlone(int p, int t) {
        return join(allButFirst(p, t), not(p, t));
    }

    /** Place p is 0 for the inputs 1023 alone; place t is 0 then. */
    static String[] allButLast(int p, int t) {
        return join(lastAlone(p, t), not(p, t));
    }

    /** Place p is 1 where an odd number of inputs is 1; place t is 0 then. */
    static String[] odd(int p, int t) {
        return joined(p, t, 2);
    }

    /** Place p becomes 1 where it was 0; place t is 0 before and behind it. */
    static String not(int p, int t) {
        return "make(" + p + ", 4, " + p + ", " + t + ")";
    }

    /**
     * Places 0 .. 9: place j is 1 where the inputs j .. 9 are. In the order at first each is
     * a part of the one before, 10 questions in all; with one input elsewhere there are more.
     */
    static String[] tails() {
        List<String> rows = new ArrayList<>();
        rows.add("input(9, 9)");
        for (int j = 8; j >= 0; j--) {
            rows.add("input(" + j + ", " + j + ")");
            rows.add("make(" + j + ", 0, " + j + ", " + (j + 1) + ")");
        }
        return rows.toArray(new String[0]);
    }

    /**
     * Place 7 as large as a function can be in an order, 269 questions; all others are 0 then.
     * Each of the first seven inputs of the order puts a product of the last three into it.
     */
    static String[] largestOfOne(String order) {
        List<String> rows = new ArrayList<>();
        for (int i = 0; i < 10; i++) {
            rows.add("input(" + (i < 7 ? i : i + 1) + ", " + order.charAt(i) + ")");
        }
        rows.add("make(11, 0, 8, 9)");
        rows.add("make(12, 0, 8, 10)");
        rows.add("make(13, 0, 9, 10)");
        rows.add("make(7, 0, 11, 10)");
        rows.add("make(7, 2, 7, 0)");
        int[] products = {8, 9, 10, 11, 12, 13};
        for (int i = 1; i < 7; i++) {
            rows.add("make(14, 0, " + i + ", " + products[i - 1] + ")");
            rows.add("make(7, 2, 7, 14)");
        }
        for (int p = 0; p < 15; p++) {
            if (p != 7) {
                rows.add("constant(" + p + ", 0)");
            }
        }
        return rows.toArray(new String[0]);
    }

    /**
     * All places as large as they can be together in an order: 3302 questions. With the inputs
     * numbered by the order, place 0 has the product of 6 .. 9, and 0 .. 5 put further products
     * of 7 .. 9 into it; the other places have the products 89, 789, 6, 67 and 68 beside that,
     * as the bits of their numbers say.
     */
    static String[] largestOfAll(String order) {
        List<String> rows = new ArrayList<>();
        int[] inputPlaces = {17, 18, 19, 20, 21, 22, 9, 10, 11, 12};
        for (int i = 0; i < 10; i++) {
            rows.add("input(" + inputPlaces[i] + ", " + order.charAt(i) + ")");
        }
        rows.addAll(List.of("make(13, 0, 9, 10)", "make(14, 0, 9, 11)", "make(15, 0, 10, 11)",
            "make(23, 0, 10, 12)", "make(3, 0, 11, 12)", "make(5, 0, 10, 3)", "make(0, 0, 9, 5)", "make(0, 2, 0, 17)"));
        int[] products = {10, 11, 12, 15, 23};
        for (int i = 1; i < 6; i++) {
            rows.add("make(7, 0, " + inputPlaces[i] + ", " + products[i - 1] + ")");
            rows.add("make(0, 2, 0, 7)");
        }
        rows.addAll(List.of("make(1, 2, 0, 3)", "make(2, 2, 0, 5)", "make(4, 2, 0, 9)", "make(8, 2, 0, 13)",
            "make(16, 2, 0, 14)"));
        for (int p = 3; p < 24; p++) {
            int top = Integer.highestOneBit(p);
            if (p != top) {
                rows.add("make(" + p + ", 2, " + (p - top) + ", " + top + ")");
                rows.add("make(" + p + ", 2, " + p + ", 0)");
            }
        }
        return rows.toArray(new String[0]);
    }

    /** Moves each input to its place of an order, from the first place on. */
    static String[] moveAllTo(String order) {
        String[] rows = new String[order.length()];
        for (int i = 0; i < rows.length; i++) {
            rows[i] = "move(" + order.charAt(i) + ", " + i + ")";
        }
        return rows;
    }

    static String[] orderIs(String order) {
        String[] rows = new String[order.length()];
        for (int i = 0; i < rows.length; i++) {
            rows[i] = "order(" + i + ") = " + order.charAt(i);
        }
        return rows;
    }
}
