/**
 * The boundary cases of promises 10 to 21: the calls that move the order, and those that ask.
 * Refused calls are tried on a new object and on one in full use, with the state behind them.
 */
public final class BoundaryAskingTest {
    private static final Check CHECK = new Check();
    private static final Refused REFUSED = new Refused(CHECK);

    public static void main(String[] args) {
        moveRefuses();
        moveToTheEnds();
        moveToItsOwnPlace();
        siftRefuses();
        siftAtTheEnds();
        siftAllOfNothing();
        siftAllByMostQuestions();
        siftAllOfSeveralTheLeast();
        siftAllByTheFirstCounts();
        siftAllEachOnce();
        orderRefuses();
        orderAtTheEnds();
        sizeRefuses();
        sizeOfTheWhole();
        countRefuses();
        countAtItsEdges();
        valueRefuses();
        valueAtItsEdges();
        leastRefuses();
        leastAtItsEdges();
        supportRefuses();
        supportAtItsEdges();
        alikeRefuses();
        alikeAtItsEdges();
        askedRefuses();
        askedBehindTheLast();
        askedOfNothing();
        questionsRefuses();
        questionsAtItsEdges();
        askingChangesNothing();
        CHECK.end();
    }

    private static void moveRefuses() {
        REFUSED.wrong("promise 10: k is not 0 .. 9", Refused.NO_INPUTS, "move(?, 0)", "move(?, 9)");
        REFUSED.wrong("promise 10: the place is not 0 .. 9", Refused.NO_INPUTS, "move(0, ?)", "move(9, ?)");
        REFUSED.wrong("promise 10: neither is", Refused.NO_INPUTS, "move(?, ?)", "move(?, 10)", "move(-1, ?)");
    }

    private static void moveToTheEnds() {
        CHECK.run("promise 10: the first to the last place", Rows.join("move(0, 9) = 0", Rows.orderIs("1234567890")));
        CHECK.run("promise 10: the last to the first place", Rows.join("move(9, 0) = 0", Rows.orderIs("9012345678")));
        CHECK.run("promise 10: there and back", Rows.join(Rows.tails(), "move(0, 9) = 19", Rows.orderIs("1234567890"),
            "size(-1) = 19", "move(0, 0) = 10", Rows.orderIs(Rows.FIRST_ORDER), "move(9, 0) = 19",
            Rows.orderIs("9012345678"), "move(9, 9) = 10", Rows.orderIs(Rows.FIRST_ORDER)));
        CHECK.run("promise 10: to the neighbours", Rows.join(Rows.tails(), "move(0, 1) = 11", Rows.orderIs("1023456789"),
            "move(0, 0) = 10", "move(9, 8) = 11", Rows.orderIs("0123456798"), "move(9, 9) = 10", "move(5, 4) = 11",
            Rows.orderIs("0123546789"), "move(5, 6) = 11", Rows.orderIs("0123465789")));
    }

    private static void moveToItsOwnPlace() {
        for (int k = 0; k < 10; k++) {
            CHECK.run("promise 10: where it is already, input " + k, Rows.join(Rows.tails(),
                "move(" + k + ", " + k + ") = 10", Rows.orderIs(Rows.FIRST_ORDER), "move(9, 0) = 19",
                "move(" + k + ", " + (k + 1) % 10 + ") = 19", Rows.orderIs("9012345678")));
        }
    }

    private static void siftRefuses() {
        REFUSED.wrong("promise 11: no such input", Refused.NO_INPUTS, "sift(?)");
    }

    private static void siftAtTheEnds() {
        CHECK.run("promise 11: to the first place from the last", Rows.join(Rows.tails(), "move(0, 9) = 19",
            "sift(0) = 0", "size(-1) = 10", Rows.orderIs(Rows.FIRST_ORDER)));
        CHECK.run("promise 11: to the last place from the first", Rows.join(Rows.tails(), "move(9, 0) = 19",
            "sift(9) = 9", "size(-1) = 10", Rows.orderIs(Rows.FIRST_ORDER)));
        CHECK.run("promise 11: it stays at the first and at the last place", Rows.join(Rows.tails(), "sift(0) = 0",
            "sift(9) = 9", "sift(9) = 9", "size(-1) = 10", Rows.orderIs(Rows.FIRST_ORDER)));
        CHECK.run("promise 11: constants alone", Rows.join("constant(0, 1)", "sift(9) = 0", "sift(0) = 0",
            Rows.orderIs("0912345678")));
        CHECK.run("promise 11: all orders are alike", Rows.join(Rows.odd(0, 1), "sift(9) = 0", "size(-1) = 19",
            "sift(5) = 0", "size(0) = 19", Rows.orderIs("5901234678")));
    }

    private static void siftAllOfNothing() {
        CHECK.run("promise 12: nothing is there", Rows.join("siftAll() = 0", Rows.orderIs("9876543210"), "siftAll() = 0",
            Rows.orderIs("9876543210")));
        CHECK.run("promise 12: 1 at all places", Rows.join(constantsEverywhere(), "siftAll() = 0",
            Rows.orderIs("9876543210"), "count(0) = 1024", "count(23) = 1024"));
        CHECK.run("promise 12: the first input alone", Rows.join("input(23, 0)", "siftAll() = 1",
            Rows.orderIs("9876543210"), "least(23) = 1"));
        CHECK.run("promise 12: the last input alone", Rows.join("input(23, 9)", "siftAll() = 1",
            Rows.orderIs("8765432109"), "least(23) = 512"));
        CHECK.run("promise 12: each one is best where it is", Rows.join(Rows.tails(), "siftAll() = 10",
            Rows.orderIs(Rows.FIRST_ORDER)));
    }

    private static String[] constantsEverywhere() {
        String[] rows = new String[24];
        for (int p = 0; p < 24; p++) {
            rows[p] = "constant(" + p + ", 1)";
        }
        return rows;
    }

    /** Those with the fewest questions first would leave 5 in the first run; by their numbers, 4 in the second. */
    private static void siftAllByMostQuestions() {
        CHECK.run("promise 12: those first that have the most questions", Rows.join("input(0, 0)", "input(1, 1)",
            "input(2, 2)", "make(4, 1, 2, 0)", "choose(5, 1, 5, 4)", "choose(3, 2, 4, 5)", "constant(0, 0)",
            "constant(1, 0)", "constant(2, 0)", "siftAll() = 4", Rows.orderIs("9876543102")));
        CHECK.run("promise 12: not in the order of their numbers", Rows.join("input(0, 0)", "input(1, 1)", "input(2, 2)",
            "make(4, 1, 0, 1)", "choose(3, 4, 2, 5)", "make(3, 0, 3, 4)", "make(4, 0, 4, 1)", "constant(0, 0)",
            "constant(1, 0)", "constant(2, 0)", "siftAll() = 3", Rows.orderIs("9876543201")));
    }

    /** By their places of the order, 9 would come to the last place; the greatest first would leave 6 and not 7. */
    private static void siftAllOfSeveralTheLeast() {
        CHECK.run("promise 12: of several the least, not the one that comes first", Rows.join("move(9, 0) = 0",
            "siftAll() = 0", Rows.orderIs("9876543210")));
        CHECK.run("promise 12: of several the least", Rows.join("input(0, 0)", "input(1, 1)", "input(2, 2)",
            "input(3, 3)", "make(5, 0, 0, 3)", "choose(6, 5, 2, 1)", "constant(0, 0)", "constant(1, 0)",
            "constant(2, 0)", "constant(3, 0)", "siftAll() = 7", Rows.orderIs("9876542130")));
    }

    /** With the questions as they are when the turn comes, 8 would be left. */
    private static void siftAllByTheFirstCounts() {
        CHECK.run("promise 12: as they are at first", Rows.join("input(0, 0)", "input(1, 1)", "input(2, 2)",
            "input(3, 3)", "choose(4, 2, 0, 3)", "choose(6, 4, 1, 0)", "constant(0, 0)", "constant(1, 0)",
            "constant(2, 0)", "constant(3, 0)", "siftAll() = 7", Rows.orderIs("9876542310")));
    }

    private static void siftAllEachOnce() {
        CHECK.run("promise 12: each once, a second call finds less", Rows.join("input(0, 0)", "input(1, 1)",
            "input(2, 2)", "choose(4, 2, 1, 5)", "make(5, 2, 0, 4)", "make(5, 2, 5, 2)", "choose(4, 0, 4, 5)",
            "constant(0, 0)", "constant(1, 0)", "constant(2, 0)", "siftAll() = 6", Rows.orderIs("9876543201"),
            "siftAll() = 5", Rows.orderIs("9876543210")));
    }

    private static void orderRefuses() {
        REFUSED.by("promise 13: no such place of the order", Refused.INDEX, Refused.with("order(?)", Refused.NO_INPUTS));
    }

    private static void orderAtTheEnds() {
        CHECK.run("promise 13: the first and the last", "order(0) = 0", "order(9) = 9", "move(0, 9)", "order(0) = 1",
            "order(9) = 0", "order(8) = 9", "move(5, 0)", "order(0) = 5", "order(9) = 0");
    }

    private static void sizeRefuses() {
        REFUSED.by("promise 14: another one that isn't there", Refused.INDEX, "size(-2)", "size(24)",
            "size(-2147483648)", "size(2147483647)", "size(25)", "size(-24)");
    }

    private static void sizeOfTheWhole() {
        CHECK.run("promise 14: the first and the last place, and the whole", "input(0, 0)", "input(22, 9)",
            "make(23, 2, 0, 22)", "size(0) = 1", "size(22) = 1", "size(23) = 3", "size(1) = 0", "size(-1) = 4",
            "constant(23, 1)", "size(23) = 0", "size(-1) = 2", "constant(0, 0)", "constant(22, 1)", "size(-1) = 0");
        CHECK.run("promise 14: all places are the same", Rows.join(sameEverywhere(), "size(0) = 19", "size(23) = 19",
            "size(-1) = 19", "questions(0) = 1", "questions(9) = 2"));
        CHECK.run("promise 14: one 1 or one 0; the last question of places 2 and 3 is one", Rows.join(
            Rows.lastAlone(0, 1), "size(0) = 10", Rows.firstAlone(2, 1), "size(2) = 10", "size(-1) = 20",
            Rows.allButLast(3, 1), "size(3) = 10", "size(-1) = 29"));
    }

    private static String[] sameEverywhere() {
        String[] rows = new String[23];
        for (int p = 1; p < 24; p++) {
            rows[p - 1] = "make(" + p + ", 0, 0, 0)";
        }
        return Rows.join(Rows.odd(0, 1), rows);
    }

    private static void countRefuses() {
        REFUSED.noPlace("promise 15", "count(?)");
    }

    private static void countAtItsEdges() {
        CHECK.run("promise 15: none and all", "count(0) = 0", "count(23) = 0", "constant(0, 1)", "constant(23, 1)",
            "count(0) = 1024", "count(23) = 1024", "count(22) = 0");
        CHECK.run("promise 15: one, and all but one", Rows.join(Rows.lastAlone(0, 4), Rows.firstAlone(1, 4),
            Rows.allButLast(2, 4), Rows.allButFirst(3, 4), "count(0) = 1", "count(1) = 1", "count(2) = 1023",
            "count(3) = 1023", "count(4) = 0", "siftAll()", "count(0) = 1", "count(3) = 1023"));
    }

    private static void valueRefuses() {
        REFUSED.noPlace("promise 16", "value(?, 0)", "value(?, 1023)");
        REFUSED.wrong("promise 16: inputs are not 0 .. 1023", Refused.NO_SETS, "value(0, ?)", "value(23, ?)");
        REFUSED.noPlace("promise 16, and inputs are not 0 .. 1023", "value(?, 1024)", "value(?, -1)", "value(?, ?)");
    }

    private static void valueAtItsEdges() {
        CHECK.run("promise 16: the first and the last inputs", Rows.join(Rows.lastAlone(0, 23), Rows.firstAlone(1, 23),
            "value(0, 1023) = true", "value(0, 0) = false", "value(0, 1022) = false", "value(0, 511) = false",
            "value(1, 0) = true", "value(1, 1) = false", "value(1, 512) = false", "value(1, 1023) = false",
            "value(23, 0) = false", "value(23, 1023) = false", "constant(23, 1)", "value(23, 0) = true",
            "value(23, 1023) = true", "move(9, 0)", "value(0, 1023) = true", "value(1, 0) = true"));
    }

    private static void leastRefuses() {
        REFUSED.noPlace("promise 17", "least(?)");
    }

    private static void leastAtItsEdges() {
        CHECK.run("promise 17: NONE", "least(0) = -1", "least(23) = -1", "input(0, 9)", "make(0, 5, 0, 0)", "least(0) = -1",
            "siftAll()", "least(0) = -1");
        CHECK.run("promise 17: the first, the second and the last inputs", Rows.join("constant(3, 1)", "least(3) = 0",
            Rows.lastAlone(0, 23), Rows.firstAlone(1, 23), Rows.allButFirst(2, 23), "least(0) = 1023", "least(1) = 0",
            "least(2) = 1", "least(23) = -1"));
        for (int k = 0; k < 10; k++) {
            CHECK.run("promise 17: not by the order, input " + k, "input(0, " + k + ")", "least(0) = " + (1 << k),
                "move(" + k + ", " + (9 - k) + ")", "least(0) = " + (1 << k), "make(0, 4, 0, 1)", "least(0) = 0");
        }
    }

    private static void supportRefuses() {
        REFUSED.noPlace("promise 18", "support(?)");
    }

    private static void supportAtItsEdges() {
        CHECK.run("promise 18: none", "support(0) = 0", "constant(23, 1)", "support(23) = 0", "input(0, 9)",
            "make(0, 2, 0, 0)", "support(0) = 0", "input(0, 0)", "make(0, 3, 0, 0)", "support(0) = 0");
        CHECK.run("promise 18: all", Rows.join(Rows.odd(0, 23), Rows.lastAlone(1, 23), Rows.firstAlone(2, 23),
            "support(0) = 1023", "support(1) = 1023", "support(2) = 1023", "move(9, 0)", "support(1) = 1023"));
        for (int k = 0; k < 10; k++) {
            int others = 1023 - (1 << k);
            CHECK.run("promise 18: all but one, input " + k, Rows.join(Rows.odd(0, 2), "input(1, " + k + ")",
                "make(0, 2, 0, 1)", "support(0) = " + others, Rows.lastAlone(0, 2), "quantify(0, 0, " + (1 << k)
                + ", false)", "support(0) = " + others, "make(0, 0, 0, 1)", "support(0) = 1023"));
        }
    }

    private static void alikeRefuses() {
        REFUSED.noPlace("promise 19", "alike(?, 0)", "alike(23, ?)", "alike(?, ?)");
    }

    private static void alikeAtItsEdges() {
        CHECK.run("promise 19: a place and itself", Rows.join("alike(0, 0) = true", "alike(23, 23) = true",
            Rows.odd(0, 1), "alike(0, 0) = true", "alike(0, 23) = false", "alike(23, 0) = false"));
        CHECK.run("promise 19: 0 and 1", "constant(23, 1)", "alike(0, 23) = false", "alike(23, 0) = false",
            "constant(0, 1)", "alike(0, 23) = true", "constant(23, 0)", "alike(23, 22) = true");
        CHECK.run("promise 19: unlike for the first or the last inputs alone", Rows.join(Rows.firstAlone(0, 4),
            Rows.lastAlone(1, 4), Rows.allButFirst(2, 4), Rows.allButLast(3, 4), "alike(0, 4) = false",
            "alike(4, 1) = false", "alike(0, 1) = false", "constant(5, 1)", "alike(2, 5) = false", "alike(5, 3) = false",
            "alike(2, 3) = false", "make(2, 1, 2, 0)", "alike(2, 5) = true", "make(3, 1, 1, 3)", "alike(5, 3) = true"));
        CHECK.run("promise 19: made in other ways", Rows.join(Rows.odd(0, 1), Rows.odd(2, 1), "alike(0, 2) = true",
            "move(9, 0)", Rows.odd(3, 1), "alike(0, 3) = true", Rows.not(3, 1), "alike(0, 3) = false"));
    }

    private static void askedRefuses() {
        REFUSED.noPlace("promise 20", "asked(?, 0, 0)", "asked(?, 1023, 9)");
        REFUSED.by("promise 20: i is below 0", Refused.INDEX, "asked(0, 0, -1)", "asked(23, 1023, -1)",
            "asked(0, 0, -2147483648)", "asked(0, 1024, -1)", "asked(0, -1, -2147483648)", "asked(24, 0, -1)");
        REFUSED.wrong("promise 20: inputs are not 0 .. 1023", Refused.NO_SETS, "asked(0, ?, 0)", "asked(23, ?, 10)",
            "asked(0, ?, 2147483647)");
        REFUSED.noPlace("promise 20, and inputs are not 0 .. 1023", "asked(?, 1024, 0)", "asked(?, -1, 0)");
    }

    private static void askedBehindTheLast() {
        CHECK.run("promise 20: all ten are asked", Rows.join(Rows.lastAlone(0, 1), Rows.odd(23, 1),
            "asked(0, 1023, 0) = 0", "asked(0, 1023, 8) = 8", "asked(0, 1023, 9) = 9", "asked(0, 1023, 10) = -1",
            "asked(0, 1023, 11) = -1", "asked(0, 1023, 2147483647) = -1", "asked(23, 0, 9) = 9", "asked(23, 0, 10) = -1",
            "asked(23, 1023, 9) = 9", "asked(0, 511, 9) = 9", "asked(0, 511, 10) = -1"));
        CHECK.run("promise 20: the first answer is enough", Rows.join(Rows.lastAlone(0, 1), "asked(0, 1022, 0) = 0",
            "asked(0, 1022, 1) = -1", "asked(0, 0, 0) = 0", "asked(0, 0, 1) = -1", "asked(0, 0, 9) = -1",
            "asked(0, 1021, 1) = 1", "asked(0, 1021, 2) = -1"));
        CHECK.run("promise 20: in the order as it is", Rows.join(Rows.lastAlone(0, 1), "move(9, 0)",
            "asked(0, 1023, 0) = 9", "asked(0, 1023, 1) = 0", "asked(0, 1023, 9) = 8", "asked(0, 1023, 10) = -1",
            "asked(0, 511, 0) = 9", "asked(0, 511, 1) = -1"));
        CHECK.run("promise 20: a function of the last input alone", "input(23, 9)", "asked(23, 0, 0) = 9",
            "asked(23, 1023, 0) = 9", "asked(23, 0, 1) = -1", "asked(23, 1023, 1) = -1");
    }

    private static void askedOfNothing() {
        CHECK.run("promise 20: nothing is asked of 0 and 1", "constant(23, 1)", "asked(0, 0, 0) = -1",
            "asked(0, 1023, 0) = -1", "asked(23, 0, 0) = -1", "asked(23, 1023, 0) = -1", "asked(23, 0, 10) = -1",
            "asked(0, 0, 2147483647) = -1");
    }

    private static void questionsRefuses() {
        REFUSED.wrong("promise 21: no such input", Refused.NO_INPUTS, "questions(?)");
    }

    private static void questionsAtItsEdges() {
        CHECK.run("promise 21: none", "questions(0) = 0", "questions(9) = 0", "constant(0, 1)", "questions(0) = 0",
            "input(0, 9)", "questions(9) = 1", "questions(0) = 0", "constant(0, 0)", "questions(9) = 0");
        CHECK.run("promise 21: the first and the last input", Rows.join(Rows.tails(), "questions(0) = 1",
            "questions(9) = 1", "move(9, 0) = 19", "questions(9) = 10", "questions(0) = 1", "move(0, 9)",
            "questions(0) = 1", "questions(9) = 10"));
        CHECK.run("promise 21: a question for each place", Rows.join(Rows.largestOfAll(Rows.FIRST_ORDER),
            "questions(0) = 24", "questions(1) = 48", "constant(23, 0)", "questions(0) = 23", "questions(1) = 46"));
    }

    /** Each call that asks only, asked twice, and the state behind it. */
    private static void askingChangesNothing() {
        String[] calls = {"order(9)", "size(-1)", "size(23)", "count(23)", "value(23, 1023)", "least(23)", "support(23)",
            "alike(0, 23)", "asked(23, 1023, 2)", "questions(9)"};
        for (String call : calls) {
            Caller house = State.full();
            String first = house.answerText(call);
            CHECK.due("asked again: " + call, house.answerText(call), first);
            CHECK.due("the state behind " + call, State.of(house), State.FULL);
        }
    }
}
