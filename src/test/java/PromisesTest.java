/** Each promise of the document with answers worked out by hand. */
public final class PromisesTest {
    private static final String NO_PLACE = Rows.NO_PLACE;
    private static final String WRONG = Rows.WRONG;
    private static final Check CHECK = new Check();

    public static void main(String[] args) {
        newObject();
        constants();
        inputs();
        makes();
        chooses();
        fixes();
        composes();
        quantifies();
        meets();
        moves();
        sifts();
        siftsAll();
        orders();
        sizes();
        sizesBehindChanges();
        counts();
        values();
        leasts();
        supports();
        alikes();
        askeds();
        questions();
        CHECK.end();
    }

    private static void newObject() {
        CHECK.due("NONE", DiagramHouse.NONE, -1);
        for (int p = 0; p < 24; p++) {
            CHECK.run("promise 1", "count(" + p + ") = 0", "least(" + p + ") = -1", "size(" + p + ") = 0",
                "support(" + p + ") = 0", "alike(0, " + p + ") = true", "value(" + p + ", 1023) = false",
                "asked(" + p + ", 0, 0) = -1");
        }
        for (int k = 0; k < 10; k++) {
            CHECK.run("promise 1", "order(" + k + ") = " + k, "questions(" + k + ") = 0");
        }
        CHECK.run("promise 1", "size(-1) = 0");
        DiagramHouse one = new DiagramHouse();
        DiagramHouse other = new DiagramHouse();
        one.constant(0, 1);
        one.move(9, 0);
        CHECK.due("promise 1: another object's place", other.count(0), 0);
        CHECK.due("promise 1: another object's order", other.order(0), 0);
    }

    private static void constants() {
        CHECK.run("promise 2", "constant(0, 1) = done", "count(0) = 1024", "count(1) = 0", "constant(23, 1) = done",
            "alike(0, 23) = true", "size(23) = 0", "support(23) = 0", "constant(23, 0) = done", "count(23) = 0",
            "count(0) = 1024", "constant(24, 1)" + NO_PLACE, "constant(-1, 1)" + NO_PLACE, "constant(0, 2)" + WRONG,
            "constant(0, -1)" + WRONG, "constant(24, 2)" + NO_PLACE, "count(0) = 1024");
    }

    private static void inputs() {
        for (int k = 0; k < 10; k++) {
            CHECK.run("promise 3", "input(7, " + k + ") = done", "count(7) = 512", "least(7) = " + (1 << k),
                "support(7) = " + (1 << k), "value(7, " + (1023 - (1 << k)) + ") = false", "size(7) = 1",
                "asked(7, 0, 0) = " + k, "count(6) = 0", "count(8) = 0");
        }
        CHECK.run("promise 3", "input(23, 9)", "input(0, 10)" + WRONG, "input(0, -1)" + WRONG,
            "input(24, 0)" + NO_PLACE, "input(-1, 0)" + NO_PLACE, "input(24, 10)" + NO_PLACE, "count(0) = 0",
            "count(23) = 512");
    }

    private static void makes() {
        int[][] due = { // the answers for inputs 0, 1, 2, 3 (input 0 is q, input 1 is r)
            {0, 0, 0, 1}, {0, 1, 1, 1}, {0, 1, 1, 0}, {1, 0, 1, 1}, {1, 0, 0, 1}, {0, 1, 0, 0}};
        int[] count = {256, 768, 512, 768, 512, 256};
        for (int kind = 0; kind < 6; kind++) {
            String[] rows = {"input(0, 0)", "input(1, 1)", "make(2, " + kind + ", 0, 1) = done",
                "count(2) = " + count[kind], "support(2) = 3", "value(2, 0) = " + (due[kind][0] == 1),
                "value(2, 1) = " + (due[kind][1] == 1), "value(2, 2) = " + (due[kind][2] == 1),
                "value(2, 3) = " + (due[kind][3] == 1), "count(0) = 512", "least(1) = 2"};
            CHECK.run("promise 4, kind " + kind, rows);
            CHECK.run("promise 4, kind " + kind + " onto q", "input(0, 0)", "input(1, 9)",
                "make(0, " + kind + ", 0, 1)", "count(0) = " + count[kind], "count(1) = 512");
            CHECK.run("promise 4, kind " + kind + " of one place", "input(5, 3)",
                "make(5, " + kind + ", 5, 5)", "count(5) = " + new int[] {512, 512, 0, 1024, 1024, 0}[kind]);
        }
        CHECK.run("promise 4", "make(0, 6, 0, 0)" + WRONG, "make(0, -1, 0, 0)" + WRONG, "make(24, 0, 0, 0)" + NO_PLACE,
            "make(0, 0, 24, 0)" + NO_PLACE, "make(0, 4, 0, 24)" + NO_PLACE, "make(0, 4, 0, -1)" + NO_PLACE,
            "make(0, 6, 0, -1)" + NO_PLACE, "make(-1, 6, 0, 0)" + NO_PLACE, "count(0) = 0",
            "make(23, 4, 22, 21)", "count(23) = 1024");
    }

    private static void chooses() {
        CHECK.run("promise 5", "input(0, 0)", "input(1, 1)", "input(2, 9)", "choose(3, 0, 1, 2) = done",
            "value(3, 0) = false", "value(3, 1) = false", "value(3, 3) = true", "value(3, 2) = false",
            "value(3, 512) = true", "value(3, 513) = false", "count(3) = 512", "size(3) = 3", "support(3) = 515",
            "choose(0, 0, 1, 2)", "alike(0, 3) = true", "choose(1, 1, 2, 1)", "count(1) = 256");
        CHECK.run("promise 5", "choose(24, 0, 0, 0)" + NO_PLACE, "choose(0, 24, 0, 0)" + NO_PLACE,
            "choose(0, 0, -1, 0)" + NO_PLACE, "choose(0, 0, 0, 24)" + NO_PLACE, "choose(23, 22, 21, 20) = done");
    }

    private static void fixes() {
        for (int k = 0; k < 10; k++) {
            int other = (k + 3) % 10;
            CHECK.run("promise 6, input " + k, "input(0, " + k + ")", "input(1, " + other + ")", "make(2, 2, 0, 1)",
                "fix(3, 2, " + k + ", 0) = done", "alike(3, 1) = true", "fix(4, 2, " + k + ", 1) = done",
                "make(5, 4, 4, 1)", "count(5) = 0", "support(4) = " + (1 << other), "fix(2, 2, " + other + ", 0)",
                "alike(2, 0) = true", "fix(0, 0, " + k + ", 1)", "count(0) = 1024", "fix(2, 2, " + k + ", 0)",
                "count(2) = 0");
        }
        CHECK.run("promise 6", "input(0, 4)", "fix(0, 0, 0, 2)" + WRONG, "fix(0, 0, 10, 0)" + WRONG,
            "fix(0, 0, -1, 0)" + WRONG, "fix(0, 0, 4, -1)" + WRONG, "fix(0, 24, 10, 2)" + NO_PLACE,
            "fix(24, 0, 4, 1)" + NO_PLACE, "fix(-1, 0, 4, 2)" + NO_PLACE, "count(0) = 512");
    }

    private static void composes() {
        CHECK.run("promise 7", "input(0, 1)", "input(1, 8)", "make(2, 0, 0, 1)", "input(3, 4)",
            "compose(4, 2, 8, 3) = done", "support(4) = 18", "count(4) = 256", "compose(5, 2, 1, 1)",
            "alike(5, 1) = true", "compose(6, 2, 5, 3)", "alike(6, 2) = true", "compose(2, 2, 8, 2)",
            "support(2) = 258", "count(2) = 256", "make(7, 4, 0, 8)", "compose(7, 2, 1, 7)", "count(7) = 256", "least(7) = 256",
            "compose(3, 2, 1, 3)", "support(3) = 272");
        CHECK.run("promise 7", "input(0, 0)", "compose(0, 0, 10, 0)" + WRONG, "compose(0, 0, -1, 0)" + WRONG,
            "compose(24, 0, 0, 0)" + NO_PLACE, "compose(0, 24, 0, 0)" + NO_PLACE, "compose(0, 0, 0, 24)" + NO_PLACE,
            "compose(0, 0, 10, -1)" + NO_PLACE, "count(0) = 512");
    }

    private static void quantifies() {
        CHECK.run("promise 8", "input(0, 2)", "input(1, 7)", "make(2, 0, 0, 1)", "make(3, 1, 0, 1)",
            "quantify(4, 2, 4, false) = done", "alike(4, 1) = true", "quantify(5, 2, 4, true) = done", "count(5) = 0",
            "quantify(6, 3, 4, true)", "alike(6, 1) = true", "quantify(7, 3, 4, false)", "count(7) = 1024",
            "quantify(8, 2, 0, false)", "alike(8, 2) = true", "quantify(9, 2, 0, true)", "alike(9, 2) = true",
            "quantify(10, 2, 1023, false)", "count(10) = 1024", "quantify(10, 2, 1023, true)", "count(10) = 0",
            "quantify(11, 3, 891, true)", "alike(11, 3) = true", "quantify(2, 2, 128, false)", "alike(2, 0) = true",
            "quantify(12, 13, 1023, false)", "count(12) = 0", "constant(12, 1)", "quantify(12, 12, 1023, true)",
            "count(12) = 1024");
        CHECK.run("promise 8", "quantify(0, 0, 1024, true)" + WRONG, "quantify(0, 0, -1, false)" + WRONG,
            "quantify(24, 0, 0, true)" + NO_PLACE, "quantify(0, -1, 0, true)" + NO_PLACE,
            "quantify(0, 24, 1024, true)" + NO_PLACE);
    }

    private static void meets() {
        CHECK.run("promise 9", "input(0, 2)", "input(1, 7)", "make(2, 2, 0, 1)", "meet(3, 0, 2, 128) = done",
            "alike(3, 0) = true", "meet(4, 0, 1, 0)", "count(4) = 256", "make(5, 5, 0, 1)", "meet(6, 5, 1, 1023)",
            "count(6) = 0", "meet(7, 2, 0, 1023)", "count(7) = 1024", "meet(2, 2, 1, 4)", "alike(2, 1) = true",
            "meet(1, 0, 1, 4)", "least(1) = 128");
        CHECK.run("promise 9", "meet(0, 0, 0, 1024)" + WRONG, "meet(0, 0, 0, -1)" + WRONG,
            "meet(24, 0, 0, 0)" + NO_PLACE, "meet(0, 24, 0, 0)" + NO_PLACE, "meet(0, 0, -1, 1024)" + NO_PLACE);
    }

    /** (0 and 1) or (2 and 3) or (4 and 5): small with the pairs together, large apart. */
    private static String[] pairs(String... more) {
        String[] first = {"input(0, 0)", "input(1, 1)", "input(2, 2)", "input(3, 3)", "input(4, 4)", "input(5, 5)",
            "make(6, 0, 0, 1)", "make(7, 0, 2, 3)", "make(8, 0, 4, 5)", "make(6, 1, 6, 7)", "make(6, 1, 6, 8)",
            "constant(7, 0)", "constant(8, 1)", "constant(0, 0)", "constant(1, 0)", "constant(2, 0)", "constant(3, 0)",
            "constant(4, 0)", "constant(5, 0)"};
        String[] rows = java.util.Arrays.copyOf(first, first.length + more.length);
        System.arraycopy(more, 0, rows, first.length, more.length);
        return rows;
    }

    private static void moves() {
        CHECK.run("promise 10", pairs("size(-1) = 6", "move(3, 1) = 8", "order(0) = 0", "order(1) = 3", "order(2) = 1",
            "order(3) = 2", "order(4) = 4", "move(3, 3) = 6", "order(1) = 1", "order(3) = 3", "move(1, 5) = 10",
            "order(5) = 1", "order(1) = 2", "order(4) = 5", "move(1, 5) = 10", "move(9, 0) = 10", "order(0) = 9",
            "order(9) = 8", "move(9, 9) = 10", "order(0) = 0", "order(9) = 9", "move(0, 9) = 6", "order(9) = 0",
            "order(0) = 2"));
        CHECK.run("promise 10", pairs("move(2, 1) = 8", "move(4, 2) = 14", "size(6) = 14", "count(6) = 592"));
        CHECK.run("promise 10", "move(10, 0)" + WRONG, "move(-1, 0)" + WRONG, "move(0, 10)" + WRONG, "move(0, -1)" + WRONG,
            "order(0) = 0");
    }

    private static void sifts() {
        CHECK.run("promise 11", pairs("move(1, 5) = 10", "sift(1) = 0", "order(0) = 1", "order(1) = 0", "size(-1) = 6",
            "sift(0) = 0", "order(0) = 0", "size(-1) = 6"));
        CHECK.run("promise 11: of several the first", "sift(5) = 0", "order(0) = 5", "order(5) = 4", "sift(5) = 0",
            "sift(9) = 0", "order(0) = 9", "order(1) = 5");
        CHECK.run("promise 11: of several the first, not where it is", pairs("sift(3) = 2", "order(2) = 3",
            "order(3) = 2", "size(-1) = 6", "sift(5) = 4", "order(4) = 5", "order(5) = 4"));
        CHECK.run("promise 11: the least is not the first", pairs("move(2, 9) = 8", "move(0, 9) = 14",
            "sift(1) = 8", "size(-1) = 8", "order(6) = 9", "order(7) = 2", "order(8) = 1", "order(9) = 0"));
        CHECK.run("promise 11", "sift(10)" + WRONG, "sift(-1)" + WRONG, "order(0) = 0");
    }

    private static void siftsAll() {
        CHECK.run("promise 12", "siftAll() = 0", "order(0) = 9", "order(1) = 8", "order(9) = 0");
        CHECK.run("promise 12: those without questions come last", "input(0, 9)", "siftAll() = 1", "order(0) = 8",
            "order(9) = 9", "order(8) = 0");
        CHECK.run("promise 12: of several the least", Rows.join("input(0, 6)", "input(1, 3)", "siftAll() = 2",
            Rows.orderIs("9875421063")));
        CHECK.run("promise 12: those with the most questions first", "input(0, 3)", "input(1, 6)", "make(2, 2, 0, 1)",
            "questions(3) = 2", "questions(6) = 2", "input(3, 5)", "make(3, 0, 3, 1)", "questions(5) = 1", "siftAll() = 5",
            "order(0) = 9", "order(1) = 8", "order(2) = 7", "order(3) = 4", "order(4) = 2", "order(5) = 1",
            "order(6) = 0", "order(7) = 5", "order(8) = 3", "order(9) = 6");
    }

    private static void orders() {
        CHECK.run("promise 13", "order(0) = 0", "order(9) = 9", "move(4, 7)", "order(3) = 3", "order(4) = 5",
            "order(6) = 7", "order(7) = 4", "order(8) = 8", "order(10)" + NO_PLACE, "order(-1)" + NO_PLACE);
    }

    private static void sizes() {
        CHECK.run("promise 14: questions alike are one", "input(0, 3)", "input(1, 3)", "size(0) = 1", "size(-1) = 1",
            "input(1, 4)", "make(2, 0, 0, 1)", "size(2) = 2", "size(-1) = 3", "make(3, 2, 0, 1)", "size(3) = 3",
            "size(-1) = 5", "make(3, 4, 0, 1)", "size(3) = 3", "size(-1) = 5", "constant(4, 1)", "size(4) = 0");
        CHECK.run("promise 14: the parity of all", "input(0, 0)", "input(1, 1)", "make(0, 2, 0, 1)", "input(1, 2)",
            "make(0, 2, 0, 1)", "input(1, 3)", "make(0, 2, 0, 1)", "input(1, 4)", "make(0, 2, 0, 1)", "input(1, 5)",
            "make(0, 2, 0, 1)", "input(1, 6)", "make(0, 2, 0, 1)", "input(1, 7)", "make(0, 2, 0, 1)", "input(1, 8)",
            "make(0, 2, 0, 1)", "input(1, 9)", "make(0, 2, 0, 1)", "size(0) = 19", "size(-1) = 19", "count(0) = 512");
        CHECK.run("promise 14", "size(24)" + NO_PLACE, "size(-2)" + NO_PLACE, "size(23) = 0",
            "size(-2147483648)" + NO_PLACE);
    }

    /** Each call that changes a function, with the sizes asked before and behind it. */
    private static void sizesBehindChanges() {
        CHECK.run("promise 14: behind each change", "size(-1) = 0", "input(0, 3)", "size(-1) = 1", "input(1, 4)",
            "size(-1) = 2", "make(2, 2, 0, 1)", "size(-1) = 4", "choose(3, 0, 1, 5)", "size(-1) = 5", "size(3) = 2",
            "fix(3, 3, 3, 1)", "size(3) = 1", "size(-1) = 4", "compose(3, 2, 4, 0)", "size(3) = 0", "size(-1) = 4",
            "quantify(2, 0, 0, false)", "size(2) = 1", "size(-1) = 2", "meet(2, 0, 1, 0)", "size(2) = 2", "size(-1) = 3",
            "constant(2, 1)", "size(2) = 0", "size(-1) = 2", "questions(3) = 1", "asked(2, 0, 0) = -1");
    }

    private static void counts() {
        CHECK.run("promise 15", "count(0) = 0", "constant(0, 1)", "count(0) = 1024", "input(0, 9)", "count(0) = 512",
            "input(1, 0)", "make(0, 0, 0, 1)", "count(0) = 256", "move(9, 0)", "count(0) = 256", "count(24)" + NO_PLACE,
            "count(-1)" + NO_PLACE);
    }

    private static void values() {
        CHECK.run("promise 16", "input(0, 9)", "value(0, 511) = false", "value(0, 512) = true", "value(0, 1023) = true",
            "value(0, 0) = false", "move(9, 0)", "value(0, 512) = true", "value(0, 1) = false", "value(0, 1024)" + WRONG,
            "value(0, -1)" + WRONG, "value(24, 0)" + NO_PLACE, "value(-1, 1024)" + NO_PLACE);
    }

    private static void leasts() {
        CHECK.run("promise 17", "least(0) = -1", "constant(0, 1)", "least(0) = 0", "input(0, 9)", "least(0) = 512",
            "input(1, 0)", "make(2, 0, 0, 1)", "least(2) = 513", "make(2, 1, 0, 1)", "least(2) = 1", "siftAll()",
            "least(2) = 1", "make(2, 5, 0, 1)", "least(2) = 512", "least(24)" + NO_PLACE, "least(-1)" + NO_PLACE);
    }

    private static void supports() {
        CHECK.run("promise 18", "support(0) = 0", "input(0, 9)", "input(1, 0)", "make(2, 2, 0, 1)", "support(2) = 513",
            "make(3, 2, 2, 0)", "support(3) = 1", "make(3, 3, 0, 0)", "support(3) = 0", "move(0, 9)", "support(2) = 513",
            "support(24)" + NO_PLACE, "support(-1)" + NO_PLACE);
    }

    private static void alikes() {
        CHECK.run("promise 19", "input(0, 6)", "input(1, 7)", "alike(0, 1) = false", "alike(0, 0) = true",
            "make(2, 0, 0, 1)", "make(3, 0, 1, 0)", "alike(2, 3) = true", "alike(22, 23) = true", "make(4, 3, 0, 0)",
            "make(5, 2, 4, 2)", "alike(5, 2) = false", "make(5, 2, 5, 4)", "alike(5, 2) = true", "alike(24, 0)" + NO_PLACE,
            "alike(0, 24)" + NO_PLACE, "alike(-1, 0)" + NO_PLACE);
        CHECK.run("promise 19: unlike for the first inputs alone", "input(0, 6)", "input(1, 7)", "input(2, 8)",
            "input(3, 9)", "make(4, 1, 0, 1)", "make(4, 1, 4, 2)", "make(4, 1, 4, 3)", "make(4, 3, 4, 5)",
            "count(4) = 64", "alike(4, 5) = false", "alike(5, 4) = false", "support(4) = 960", "size(4) = 4");
        CHECK.run("promise 19: unlike for the last inputs alone", "input(0, 6)", "input(1, 7)", "input(2, 8)",
            "input(3, 9)", "make(4, 0, 0, 1)", "make(4, 0, 4, 2)", "make(4, 0, 4, 3)", "least(4) = 960",
            "count(4) = 64", "alike(4, 5) = false", "alike(5, 4) = false", "support(4) = 960", "size(4) = 4");
    }

    private static void askeds() {
        CHECK.run("promise 20", pairs("asked(6, 0, 0) = 0", "asked(6, 0, 1) = 2", "asked(6, 0, 2) = 4",
            "asked(6, 0, 3) = -1", "asked(6, 1, 1) = 1", "asked(6, 1, 2) = 2", "asked(6, 3, 1) = 1", "asked(6, 3, 2) = -1",
            "asked(6, 21, 5) = 5", "asked(6, 21, 6) = -1", "asked(6, 21, 2147483647) = -1", "move(5, 0)",
            "asked(6, 0, 0) = 5", "asked(6, 0, 1) = 0", "asked(6, 0, 3) = -1", "asked(6, 32, 3) = 4",
            "asked(8, 0, 0) = -1", "asked(7, 1023, 0) = -1"));
        CHECK.run("promise 20", "asked(0, 0, -1)" + NO_PLACE, "asked(24, 0, 0)" + NO_PLACE, "asked(-1, 0, 0)" + NO_PLACE,
            "asked(0, 1024, 0)" + WRONG, "asked(0, -1, 0)" + WRONG, "asked(0, 1024, -1)" + NO_PLACE,
            "asked(24, 1024, 0)" + NO_PLACE, "asked(0, 1023, 10) = -1");
    }

    private static void questions() {
        CHECK.run("promise 21", "input(0, 3)", "input(1, 5)", "make(2, 2, 0, 1)", "questions(3) = 2", "questions(5) = 2",
            "questions(4) = 0", "move(5, 0)", "questions(5) = 2", "questions(3) = 2", "make(3, 0, 0, 1)", "questions(5) = 3",
            "questions(3) = 2", "move(3, 0)", "questions(3) = 3", "questions(5) = 2", "constant(3, 1)", "questions(3) = 2",
            "questions(10)" + WRONG, "questions(-1)" + WRONG);
    }
}
