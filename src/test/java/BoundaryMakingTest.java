/**
 * The boundary cases of promises 1 to 9: a new object, and the calls that change a function.
 * Refused calls are tried on a new object and on one in full use, with the state behind them.
 */
public final class BoundaryMakingTest {
    private static final Check CHECK = new Check();
    private static final Refused REFUSED = new Refused(CHECK);

    public static void main(String[] args) {
        newObject();
        objectsApart();
        constantRefuses();
        constantAtItsEdges();
        inputRefuses();
        inputAtItsEdges();
        makeRefuses();
        makeOfNothingAndOfAll();
        makeOfItself();
        chooseRefuses();
        chooseByNothingAndByAll();
        chooseOfItself();
        fixRefuses();
        fixAtItsEdges();
        fixOfItself();
        composeRefuses();
        composeAtItsEdges();
        composeOfItself();
        quantifyRefuses();
        quantifyOverNothing();
        quantifyOverAll();
        quantifyAtTheEdgesOfASet();
        quantifyOfItself();
        meetRefuses();
        meetOverNothingAndOverAll();
        meetOfItself();
        CHECK.end();
    }

    private static void newObject() {
        for (int p = 0; p < 24; p++) {
            CHECK.run("promise 1: all places are 0, place " + p, "count(" + p + ") = 0", "least(" + p + ") = -1",
                "support(" + p + ") = 0", "size(" + p + ") = 0", "value(" + p + ", 0) = false",
                "value(" + p + ", 1023) = false", "alike(" + p + ", " + (23 - p) + ") = true",
                "asked(" + p + ", 1023, 0) = -1");
        }
        CHECK.run("promise 1: nothing is asked", "size(-1) = 0", "questions(0) = 0", "questions(9) = 0");
    }

    private static void objectsApart() {
        DiagramHouse one = new DiagramHouse();
        DiagramHouse other = new DiagramHouse();
        one.input(23, 9);
        one.move(9, 0);
        CHECK.due("promise 1: another object's place", other.count(23), 0);
        CHECK.due("promise 1: another object's order", other.order(0), 0);
        CHECK.due("promise 1: another object's whole size", other.size(DiagramHouse.NONE), 0);
        CHECK.due("promise 1: an object that is made later", new DiagramHouse().count(23), 0);
    }

    private static void constantRefuses() {
        REFUSED.noPlace("promise 2", "constant(?, 0)", "constant(?, 1)");
        REFUSED.wrong("promise 2, v is neither", Refused.NO_TRUTHS, "constant(0, ?)", "constant(23, ?)");
        REFUSED.noPlace("promise 2, v is neither too", "constant(?, 2)", "constant(?, -1)");
    }

    private static void constantAtItsEdges() {
        for (int p : new int[] {0, 23}) {
            int other = 23 - p;
            CHECK.run("promise 2: place " + p, "constant(" + p + ", 1) = done", "count(" + p + ") = 1024",
                "count(" + other + ") = 0", "constant(" + p + ", 1) = done", "count(" + p + ") = 1024",
                "constant(" + other + ", 0) = done", "count(" + other + ") = 0", "constant(" + p + ", 0) = done",
                "count(" + p + ") = 0", "size(-1) = 0");
        }
        CHECK.run("promise 2: onto a large function", Rows.join(Rows.largestOfOne(Rows.FIRST_ORDER), "size(7) = 269",
            "constant(7, 0) = done", "least(7) = -1", "size(7) = 0", "support(7) = 0", "size(-1) = 0"));
    }

    private static void inputRefuses() {
        REFUSED.noPlace("promise 3", "input(?, 0)", "input(?, 9)");
        REFUSED.wrong("promise 3, no such input", Refused.NO_INPUTS, "input(0, ?)", "input(23, ?)");
        REFUSED.noPlace("promise 3, no such input too", "input(?, 10)", "input(?, -1)");
    }

    private static void inputAtItsEdges() {
        CHECK.run("promise 3: the first and the last", "input(0, 0) = done", "input(23, 9) = done", "value(0, 1) = true",
            "value(0, 1022) = false", "value(23, 512) = true", "value(23, 511) = false", "count(0) = 512",
            "count(23) = 512", "count(1) = 0", "count(22) = 0");
        CHECK.run("promise 3: onto 1 and onto another input", "constant(5, 1)", "input(5, 9)", "least(5) = 512",
            "input(5, 0)", "least(5) = 1", "support(5) = 1", "count(5) = 512", "size(-1) = 1");
        CHECK.run("promise 3: an input is not its place of the order", "move(9, 0)", "input(0, 9)", "least(0) = 512",
            "input(0, 0)", "least(0) = 1");
    }

    private static void makeRefuses() {
        REFUSED.noPlace("promise 4", "make(?, 0, 0, 0)", "make(0, 0, ?, 23)", "make(23, 5, 0, ?)", "make(?, 5, ?, ?)");
        REFUSED.wrong("promise 4, another kind", Refused.NO_KINDS, "make(0, ?, 0, 23)", "make(23, ?, 23, 0)");
        REFUSED.noPlace("promise 4, another kind too", "make(?, 6, 0, 0)", "make(0, 6, ?, 0)", "make(0, -1, 0, ?)");
    }

    /** Place 0 is 0 and place 1 is 1, and all four pairs of them are joined. */
    private static void makeOfNothingAndOfAll() {
        int[][] ones = {{0, 0, 0, 1}, {0, 1, 1, 1}, {0, 1, 1, 0}, {1, 1, 0, 1}, {1, 0, 0, 1}, {0, 0, 1, 0}};
        for (int kind = 0; kind < 6; kind++) {
            for (int pair = 0; pair < 4; pair++) {
                CHECK.run("promise 4: kind " + kind + " of " + pair / 2 + " and " + pair % 2, "constant(1, 1)",
                    "make(23, " + kind + ", " + pair / 2 + ", " + pair % 2 + ") = done",
                    "count(23) = " + 1024 * ones[kind][pair], "support(23) = 0");
            }
        }
        CHECK.run("promise 4: functions of one 1 each", Rows.join(Rows.firstAlone(0, 2), Rows.lastAlone(1, 2),
            "make(3, 0, 0, 1)", "count(3) = 0", "make(3, 1, 0, 1)", "count(3) = 2", "make(3, 2, 0, 1)", "count(3) = 2",
            "make(3, 3, 0, 1)", "count(3) = 1023", "value(3, 0) = false", "make(3, 4, 0, 1)", "count(3) = 1022",
            "make(3, 5, 0, 1)", "alike(3, 0) = true"));
    }

    private static void makeOfItself() {
        int[] ofBoth = {256, 768, 512, 768, 512, 256};
        int[] ofOne = {512, 512, 0, 1024, 1024, 0};
        int[] least = {513, 1, 1, 0, 0, 1};
        for (int kind = 0; kind < 6; kind++) {
            String of = "promise 4: kind " + kind;
            CHECK.run(of + ", p is q", "input(0, 0)", "input(23, 9)", "make(0, " + kind + ", 0, 23) = done",
                "count(0) = " + ofBoth[kind], "least(0) = " + least[kind], "least(23) = 512", "count(23) = 512");
            CHECK.run(of + ", p is r", "input(0, 0)", "input(23, 9)", "make(23, " + kind + ", 0, 23) = done",
                "count(23) = " + ofBoth[kind], "least(23) = " + least[kind], "least(0) = 1", "count(0) = 512");
            CHECK.run(of + ", q is r", "input(0, 9)", "make(23, " + kind + ", 0, 0) = done",
                "count(23) = " + ofOne[kind], "count(0) = 512");
            CHECK.run(of + ", p is both", "input(23, 9)", "make(23, " + kind + ", 23, 23) = done",
                "count(23) = " + ofOne[kind]);
        }
    }

    private static void chooseRefuses() {
        REFUSED.noPlace("promise 5", "choose(?, 0, 0, 0)", "choose(0, ?, 0, 0)", "choose(0, 23, ?, 0)",
            "choose(23, 0, 23, ?)", "choose(?, ?, ?, ?)");
    }

    private static void chooseByNothingAndByAll() {
        CHECK.run("promise 5: q is 0 everywhere", "input(1, 0)", "input(2, 9)", "choose(23, 0, 1, 2) = done",
            "alike(23, 2) = true", "alike(23, 1) = false");
        CHECK.run("promise 5: q is 1 everywhere", "constant(0, 1)", "input(1, 0)", "input(2, 9)",
            "choose(23, 0, 1, 2) = done", "alike(23, 1) = true", "alike(23, 2) = false");
        CHECK.run("promise 5: r and s are 1 and 0", "input(0, 9)", "constant(1, 1)", "choose(23, 0, 1, 2) = done",
            "alike(23, 0) = true", "choose(23, 0, 2, 1)", "count(23) = 512", "least(23) = 0", "value(23, 512) = false");
        CHECK.run("promise 5: q is 1 for the last inputs alone", Rows.join(Rows.lastAlone(0, 2), "input(1, 9)",
            "choose(23, 0, 2, 1) = done", "count(23) = 511", "value(23, 1023) = false", "value(23, 1022) = true"));
        CHECK.run("promise 5: q is 1 for the first inputs alone", Rows.join(Rows.firstAlone(0, 2), "input(1, 9)",
            "constant(2, 1)", "choose(23, 0, 2, 1) = done", "count(23) = 513", "least(23) = 0", "value(23, 1) = false"));
    }

    /** Input 0 at place 0, input 5 at place 1, input 9 at place 2. */
    private static void chooseOfItself() {
        String[] first = {"input(0, 0)", "input(1, 5)", "input(2, 9)", "choose(23, 0, 1, 2)"};
        CHECK.run("promise 5: p is q", Rows.join(first, "choose(0, 0, 1, 2) = done", "alike(0, 23) = true"));
        CHECK.run("promise 5: p is r", Rows.join(first, "choose(1, 0, 1, 2) = done", "alike(1, 23) = true"));
        CHECK.run("promise 5: p is s", Rows.join(first, "choose(2, 0, 1, 2) = done", "alike(2, 23) = true"));
        CHECK.run("promise 5: q is r", Rows.join(first, "choose(3, 0, 0, 2) = done", "make(4, 1, 0, 2)",
            "alike(3, 4) = true", "count(3) = 768"));
        CHECK.run("promise 5: q is s", Rows.join(first, "choose(3, 0, 1, 0) = done", "make(4, 0, 0, 1)",
            "alike(3, 4) = true", "count(3) = 256"));
        CHECK.run("promise 5: r is s", Rows.join(first, "choose(3, 0, 1, 1) = done", "alike(3, 1) = true",
            "support(3) = 32"));
        CHECK.run("promise 5: all are p", Rows.join(first, "choose(23, 23, 23, 23) = done", "choose(3, 0, 1, 2)",
            "alike(3, 23) = true", "support(23) = 545"));
    }

    private static void fixRefuses() {
        REFUSED.noPlace("promise 6", "fix(?, 0, 0, 0)", "fix(0, ?, 9, 1)", "fix(?, ?, 0, 0)");
        REFUSED.wrong("promise 6, v is neither", Refused.NO_TRUTHS, "fix(0, 0, 0, ?)", "fix(23, 23, 9, ?)");
        REFUSED.wrong("promise 6, no such input", Refused.NO_INPUTS, "fix(0, 0, ?, 0)", "fix(23, 23, ?, 1)");
        REFUSED.wrong("promise 6, neither one is there", Refused.NO_INPUTS, "fix(0, 1, ?, 2)", "fix(0, 1, ?, ?)");
        REFUSED.noPlace("promise 6, no such input and v is neither too", "fix(?, 0, 10, 2)", "fix(0, ?, -1, 0)",
            "fix(0, ?, 0, 2)");
    }

    private static void fixAtItsEdges() {
        for (int k = 0; k < 10; k++) {
            int bit = 1 << k;
            String at = "promise 6, input " + k;
            CHECK.run(at + ": 1 for the last inputs alone", Rows.join(Rows.lastAlone(0, 1),
                "fix(23, 0, " + k + ", 1) = done", "count(23) = 2", "least(23) = " + (1023 - bit),
                "support(23) = " + (1023 - bit), "fix(22, 0, " + k + ", 0) = done", "count(22) = 0", "count(0) = 1"));
            CHECK.run(at + ": 1 for the first inputs alone", Rows.join(Rows.firstAlone(0, 1),
                "fix(23, 0, " + k + ", 0) = done", "count(23) = 2", "value(23, " + bit + ") = true",
                "support(23) = " + (1023 - bit), "fix(22, 0, " + k + ", 1) = done", "count(22) = 0"));
            CHECK.run(at + ": 0 and 1 stay", "constant(1, 1)", "fix(2, 0, " + k + ", 1)", "count(2) = 0",
                "fix(2, 1, " + k + ", 0)", "count(2) = 1024");
            CHECK.run(at + ": it does not depend on it", "input(0, " + (k + 1) % 10 + ")",
                "fix(1, 0, " + k + ", 0)", "alike(0, 1) = true", "fix(1, 0, " + k + ", 1)", "alike(0, 1) = true");
        }
    }

    private static void fixOfItself() {
        String[] rows = new String[10];
        for (int k = 0; k < 10; k++) {
            rows[k] = "fix(0, 0, " + k + ", 1) = done";
        }
        CHECK.run("promise 6: a place with all its inputs, one after another, 1", Rows.join(Rows.lastAlone(0, 1), rows,
            "count(0) = 1024", "support(0) = 0"));
        for (int k = 0; k < 10; k++) {
            CHECK.run("promise 6: p is q, input " + k, "input(23, " + k + ")", "size(23) = 1",
                "fix(23, 23, " + k + ", 0) = done", "count(23) = 0", "size(23) = 0", "input(23, " + k + ")",
                "fix(23, 23, " + k + ", 1) = done", "count(23) = 1024",
                "fix(23, 23, " + k + ", 0) = done", "count(23) = 1024");
        }
    }

    private static void composeRefuses() {
        REFUSED.noPlace("promise 7", "compose(?, 0, 0, 0)", "compose(0, ?, 9, 23)", "compose(23, 0, 0, ?)",
            "compose(?, ?, 0, ?)");
        REFUSED.wrong("promise 7, no such input", Refused.NO_INPUTS, "compose(0, 0, ?, 0)", "compose(23, 22, ?, 21)");
        REFUSED.noPlace("promise 7, no such input too", "compose(?, 0, 10, 0)", "compose(0, ?, -1, 0)",
            "compose(0, 0, 10, ?)");
    }

    private static void composeAtItsEdges() {
        for (int k = 0; k < 10; k++) {
            int bit = 1 << k;
            String at = "promise 7, input " + k;
            CHECK.run(at + ": 0 and 1 for it", Rows.join(Rows.lastAlone(0, 1), "constant(2, 1)",
                "compose(23, 0, " + k + ", 1) = done", "count(23) = 0", "compose(23, 0, " + k + ", 2) = done",
                "count(23) = 2", "least(23) = " + (1023 - bit)));
            CHECK.run(at + ": itself for it", Rows.join(Rows.lastAlone(0, 1), "input(1, " + k + ")",
                "compose(23, 0, " + k + ", 1) = done", "alike(23, 0) = true"));
            CHECK.run(at + ": what is not it for it", Rows.join(Rows.lastAlone(0, 1), "input(2, " + k + ")",
                Rows.not(2, 1), "compose(23, 0, " + k + ", 2) = done", "count(23) = 1", "least(23) = " + (1023 - bit)));
            CHECK.run(at + ": into 0 and 1", "constant(1, 1)", "input(2, 3)", "compose(23, 0, " + k + ", 2) = done",
                "count(23) = 0", "compose(23, 1, " + k + ", 2) = done", "count(23) = 1024");
            CHECK.run(at + ": into a function without it", "input(0, " + (k + 1) % 10 + ")", "input(1, " + k + ")",
                "compose(23, 0, " + k + ", 1) = done", "alike(23, 0) = true", "support(23) = " + (1 << (k + 1) % 10));
        }
    }

    /** For each input k and the next one j: (k and j) with (k or j) for k is j. */
    private static void composeOfItself() {
        for (int k = 0; k < 10; k++) {
            int j = (k + 1) % 10;
            String at = "promise 7, input " + k;
            String[] first = {"input(0, " + k + ")", "input(1, " + j + ")", "make(2, 0, 0, 1)", "make(3, 1, 0, 1)",
                "make(4, 2, 0, 1)"};
            CHECK.run(at + ": p is q", Rows.join(first, "size(2) = 2", "compose(2, 2, " + k + ", 3) = done",
                "alike(2, 1) = true", "size(2) = 1", "count(3) = 768"));
            CHECK.run(at + ": p is r", Rows.join(first, "compose(3, 2, " + k + ", 3) = done", "alike(3, 1) = true",
                "count(2) = 256"));
            CHECK.run(at + ": q is r", Rows.join(first, "compose(23, 2, " + k + ", 2) = done", "alike(23, 2) = true",
                "compose(23, 4, " + k + ", 4) = done", "alike(23, 0) = true"));
            CHECK.run(at + ": all are p", Rows.join(first, "compose(4, 4, " + k + ", 4) = done", "alike(4, 0) = true",
                "compose(4, 4, " + k + ", 4) = done", "alike(4, 0) = true"));
        }
    }

    private static void quantifyRefuses() {
        REFUSED.noPlace("promise 8", "quantify(?, 0, 0, true)", "quantify(0, ?, 1023, false)", "quantify(?, ?, 0, false)");
        REFUSED.wrong("promise 8, the set is not 0 .. 1023", Refused.NO_SETS, "quantify(0, 0, ?, true)",
            "quantify(23, 22, ?, false)");
        REFUSED.noPlace("promise 8, no such set too", "quantify(?, 0, 1024, true)", "quantify(0, ?, -1, false)");
    }

    private static void quantifyOverNothing() {
        for (String every : new String[] {"false", "true"}) {
            CHECK.run("promise 8: the empty set, every = " + every, Rows.join(Rows.lastAlone(0, 1), Rows.allButFirst(2, 1),
                "constant(3, 1)", "quantify(23, 0, 0, " + every + ") = done", "alike(23, 0) = true",
                "quantify(23, 1, 0, " + every + ")", "count(23) = 0", "quantify(23, 2, 0, " + every + ")",
                "alike(23, 2) = true", "quantify(23, 3, 0, " + every + ")", "count(23) = 1024"));
        }
    }

    private static void quantifyOverAll() {
        CHECK.run("promise 8: all inputs, some", Rows.join(Rows.lastAlone(0, 1), Rows.firstAlone(2, 1), "constant(3, 1)",
            "quantify(23, 0, 1023, false) = done", "count(23) = 1024", "quantify(23, 1, 1023, false)", "count(23) = 0",
            "quantify(23, 2, 1023, false)", "count(23) = 1024", "quantify(23, 3, 1023, false)", "count(23) = 1024",
            "support(23) = 0"));
        CHECK.run("promise 8: all inputs, all", Rows.join(Rows.allButLast(0, 1), Rows.allButFirst(2, 1), "constant(3, 1)",
            "quantify(23, 0, 1023, true) = done", "count(23) = 0", "quantify(23, 1, 1023, true)", "count(23) = 0",
            "quantify(23, 2, 1023, true)", "count(23) = 0", "quantify(23, 3, 1023, true)", "count(23) = 1024"));
    }

    private static void quantifyAtTheEdgesOfASet() {
        for (int k = 0; k < 10; k++) {
            int bit = 1 << k;
            int others = 1023 - bit;
            CHECK.run("promise 8: a set of one, input " + k, Rows.join(Rows.lastAlone(0, 1), Rows.allButFirst(2, 1),
                "quantify(23, 0, " + bit + ", false) = done", "count(23) = 2", "least(23) = " + others,
                "support(23) = " + others, "quantify(23, 0, " + bit + ", true) = done", "count(23) = 0",
                "quantify(23, 2, " + bit + ", true) = done", "count(23) = 1022", "value(23, " + bit + ") = false",
                "support(23) = " + others, "quantify(23, 2, " + bit + ", false) = done", "count(23) = 1024"));
            CHECK.run("promise 8: a set of all but one, input " + k, Rows.join(Rows.lastAlone(0, 1),
                Rows.allButFirst(2, 1), "input(3, " + k + ")", "quantify(23, 0, " + others + ", false) = done",
                "alike(23, 3) = true", "quantify(23, 0, " + others + ", true) = done", "count(23) = 0",
                "quantify(23, 2, " + others + ", true) = done", "alike(23, 3) = true",
                "quantify(23, 2, " + others + ", false) = done", "count(23) = 1024",
                "quantify(23, 3, " + others + ", false) = done", "alike(23, 3) = true",
                "quantify(23, 3, " + others + ", true) = done", "alike(23, 3) = true"));
        }
    }

    private static void quantifyOfItself() {
        CHECK.run("promise 8: p is q", Rows.join(Rows.odd(23, 0), "quantify(23, 23, 0, true) = done", "count(23) = 512",
            "size(23) = 19", "quantify(23, 23, 512, false) = done", "count(23) = 1024", "size(23) = 0"));
        CHECK.run("promise 8: p is q, all", Rows.join(Rows.odd(23, 0), "quantify(23, 23, 1, true) = done",
            "count(23) = 0"));
        String[] rows = new String[10];
        for (int k = 0; k < 10; k++) {
            rows[k] = "quantify(0, 0, " + (1 << k) + ", false) = done";
        }
        CHECK.run("promise 8: a place by one input after another", Rows.join(Rows.lastAlone(0, 1), rows[0], rows[9],
            "count(0) = 4", rows, "count(0) = 1024"));
    }

    private static void meetRefuses() {
        REFUSED.noPlace("promise 9", "meet(?, 0, 0, 0)", "meet(0, ?, 23, 1023)", "meet(23, 0, ?, 0)", "meet(?, ?, ?, 0)");
        REFUSED.wrong("promise 9, the set is not 0 .. 1023", Refused.NO_SETS, "meet(0, 0, 0, ?)", "meet(23, 22, 21, ?)");
        REFUSED.noPlace("promise 9, no such set too", "meet(?, 0, 0, 1024)", "meet(0, ?, 0, -1)", "meet(0, 0, ?, 1024)");
    }

    private static void meetOverNothingAndOverAll() {
        CHECK.run("promise 9: the empty set", "input(0, 0)", "input(1, 9)", "constant(2, 1)", "meet(23, 0, 1, 0) = done",
            "count(23) = 256", "least(23) = 513", "meet(23, 0, 2, 0)", "alike(23, 0) = true", "meet(23, 2, 1, 0)",
            "alike(23, 1) = true", "meet(23, 0, 3, 0)", "count(23) = 0", "meet(23, 2, 2, 0)", "count(23) = 1024");
        CHECK.run("promise 9: all inputs", Rows.join(Rows.lastAlone(0, 1), Rows.firstAlone(2, 1), "constant(3, 1)",
            "meet(23, 0, 3, 1023) = done", "count(23) = 1024", "meet(23, 2, 3, 1023)", "count(23) = 1024",
            "meet(23, 0, 2, 1023)", "count(23) = 0", "meet(23, 1, 3, 1023)", "count(23) = 0", "meet(23, 3, 1, 1023)",
            "count(23) = 0", "meet(23, 3, 3, 1023)", "count(23) = 1024"));
        for (int k = 0; k < 10; k++) {
            int others = 1023 - (1 << k);
            CHECK.run("promise 9: both for the same way to change, input " + k, "input(0, " + k + ")", "make(1, 4, 0, 2)",
                "meet(23, 0, 1, " + (1 << k) + ") = done", "count(23) = 0", "meet(23, 0, 1, 1023) = done", "count(23) = 0",
                "meet(23, 0, 0, " + (1 << k) + ") = done", "count(23) = 1024", "meet(23, 0, 0, " + others + ") = done",
                "alike(23, 0) = true", "meet(23, 1, 1, " + others + ") = done", "alike(23, 1) = true");
        }
    }

    /** Place 0 is input 2, place 1 is input 7, place 2 their xor. */
    private static void meetOfItself() {
        String[] first = {"input(0, 2)", "input(1, 7)", "make(2, 2, 0, 1)"};
        CHECK.run("promise 9: p is q", Rows.join(first, "meet(2, 2, 0, 4) = done", "make(4, 4, 1, 3)",
            "alike(2, 4) = true", "least(0) = 4"));
        CHECK.run("promise 9: p is r", Rows.join(first, "meet(0, 2, 0, 4) = done", "make(4, 4, 1, 3)",
            "alike(0, 4) = true", "count(2) = 512"));
        CHECK.run("promise 9: q is r", Rows.join(first, "meet(23, 1, 1, 4) = done", "alike(23, 1) = true",
            "meet(23, 2, 2, 4) = done", "count(23) = 1024"));
        CHECK.run("promise 9: all are p", Rows.join(first, "meet(1, 1, 1, 4) = done", "least(1) = 128", "count(1) = 512",
            "size(1) = 1", "meet(1, 1, 1, 128) = done", "count(1) = 1024", "size(1) = 0"));
    }
}
