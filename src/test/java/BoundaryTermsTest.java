/**
 * The boundary cases of the document's first parts: the 512 calls of "What it is", and the
 * sentences of "Terms" on inputs, places, the order, questions, moving, sifting and NONE.
 */
public final class BoundaryTermsTest {
    private static final int MOST_CALLS = Caller.MOST_CALLS;
    private static final String[] ORDERS = {Rows.FIRST_ORDER, "9876543210", "5678901234", "6789012345", "0987612345",
        "7391548206"};
    private static final Check CHECK = new Check();
    private static final Refused REFUSED = new Refused(CHECK);

    public static void main(String[] args) {
        lastCallAnswers();
        lastCallIsTakenOrRefused();
        lastCallSeesTheOneBefore();
        refusedCallsBefore();
        sameCallAlways();
        largestSiftedToTheLastCall();
        everyInputAtEveryPlace();
        unlikeFunctionsAtAllPlaces();
        firstOrder();
        askedOnlyIfItDepends();
        alikeQuestionsAreOne();
        sizesOfNothingAndOfAll();
        largestInEachOrder();
        everyMove();
        siftingToTheOnlyBest();
        siftingToTheFirstOfSeveral();
        severalExceptions();
        none();
        CHECK.end();
    }

    /** Calls that come to nothing, so that the rows behind them end with the 512th. */
    private static String[] endingAtLastCall(String[] first, String... last) {
        int between = MOST_CALLS - first.length - last.length;
        return Rows.join(first, Rows.repeat(between % 2, "size(-1)"),
            Rows.repeat(between / 2, "move(4, 0)", "move(4, 4)"), last);
    }

    private static void lastCallAnswers() {
        String[] rows = {"move(9, 0) = 19", "sift(4) = 4", "siftAll() = 10", "order(9) = 9", "size(-1) = 10",
            "size(0) = 10", "size(23) = 0", "count(0) = 1", "count(9) = 512", "value(0, 1023) = true",
            "value(0, 511) = false", "least(0) = 1023", "least(23) = -1", "support(0) = 1023", "alike(0, 0) = true",
            "alike(0, 1) = false", "asked(0, 1023, 9) = 9", "asked(0, 1023, 10) = -1", "questions(9) = 1"};
        for (String row : rows) {
            CHECK.run("the 512th call answers", endingAtLastCall(Rows.tails(), row));
        }
    }

    private static void lastCallIsTakenOrRefused() {
        String[] rows = {"constant(23, 1) = done", "input(23, 9) = done", "make(23, 5, 0, 1) = done",
            "choose(23, 0, 1, 2) = done", "fix(23, 0, 9, 1) = done", "compose(23, 0, 9, 1) = done",
            "quantify(23, 0, 1023, true) = done", "meet(23, 0, 1, 1023) = done", "constant(24, 1)" + Rows.NO_PLACE,
            "constant(23, 2)" + Rows.WRONG, "move(10, 0)" + Rows.WRONG, "order(10)" + Rows.NO_PLACE};
        for (String row : rows) {
            CHECK.run("the 512th call is taken or refused", endingAtLastCall(Rows.tails(), row));
        }
    }

    private static void lastCallSeesTheOneBefore() {
        String[][] pairs = {{"constant(23, 1)", "count(23) = 1024"}, {"input(23, 0)", "size(-1) = 11"},
            {"make(23, 5, 1, 0)", "count(23) = 1"}, {"choose(23, 9, 8, 23)", "alike(23, 8) = true"},
            {"fix(23, 0, 0, 1)", "alike(1, 23) = true"}, {"compose(23, 8, 8, 7)", "alike(23, 7) = true"},
            {"quantify(23, 0, 1, false)", "count(23) = 2"}, {"meet(23, 0, 1, 1023)", "least(23) = 0"},
            {"move(9, 0)", "order(9) = 8"}, {"sift(9) = 9", "order(9) = 9"}, {"siftAll() = 10", "questions(5) = 1"},
            {"constant(0, 2)" + Rows.WRONG, "count(0) = 1"}};
        for (String[] pair : pairs) {
            CHECK.run("the 512th call sees the 511th", endingAtLastCall(Rows.tails(), pair));
        }
    }

    private static void refusedCallsBefore() {
        String[] refused = {"constant(24, 1)" + Rows.NO_PLACE, "constant(0, 2)" + Rows.WRONG,
            "make(0, 6, 1, 2)" + Rows.WRONG, "move(-1, 3)" + Rows.WRONG, "sift(10)" + Rows.WRONG,
            "order(10)" + Rows.NO_PLACE, "asked(0, 0, -1)" + Rows.NO_PLACE};
        CHECK.run("511 refused calls, then one", Rows.join(Rows.repeat(73, refused), "siftAll() = 0"));
        CHECK.run("490 refused calls among 512", Rows.join(Rows.tails(), Rows.repeat(70, refused),
            "count(0) = 1", "order(9) = 9", "size(-1) = 10"));
    }

    private static void sameCallAlways() {
        CHECK.run("512 times siftAll()", Rows.repeat(MOST_CALLS, "siftAll() = 0"));
        CHECK.run("512 times size()", Rows.repeat(MOST_CALLS, "size(-1) = 0"));
        CHECK.run("512 times least()", Rows.repeat(MOST_CALLS, "least(23) = -1"));
        CHECK.run("a place made of itself 511 times", Rows.join("input(0, 0)", "input(1, 9)",
            Rows.repeat(509, "make(0, 2, 0, 1)"), "count(0) = 512"));
    }

    /** The dearest calls: sifting never makes the whole larger, and does not change a function. */
    private static void largestSiftedToTheLastCall() {
        Caller house = new Caller(new DiagramHouse());
        for (String row : Rows.largestOfAll(Rows.FIRST_ORDER)) {
            house.answerText(row);
        }
        int count = Integer.parseInt(house.answer("count", 23));
        int before = Integer.parseInt(house.answer("size", -1));
        while (house.callsLeft() > 2) {
            int behind = Integer.parseInt(house.answer("siftAll"));
            CHECK.due("siftAll() makes the whole larger", behind > before, false);
            before = behind;
        }
        CHECK.due("the whole size behind siftAll()", house.answer("size", -1), Integer.toString(before));
        CHECK.due("the 512th call, behind many siftAll()", house.answer("count", 23), Integer.toString(count));
    }

    private static void everyInputAtEveryPlace() {
        for (int p = 0; p < 24; p++) {
            int before = (p + 23) % 24;
            int behind = (p + 1) % 24;
            for (int k = 0; k < 10; k++) {
                int bit = 1 << k;
                CHECK.run("terms 1: ten inputs, 24 places, bit k for input k", "input(" + p + ", " + k + ") = done",
                    "value(" + p + ", " + bit + ") = true", "value(" + p + ", " + (1023 - bit) + ") = false",
                    "value(" + p + ", 0) = false", "value(" + p + ", 1023) = true", "support(" + p + ") = " + bit,
                    "count(" + before + ") = 0", "count(" + behind + ") = 0", "size(-1) = 1");
            }
        }
    }

    /** The inputs, each inverted, three joinings of inputs 0 and 1, and 1: no two alike. */
    private static void unlikeFunctionsAtAllPlaces() {
        Caller house = new Caller(new DiagramHouse());
        for (int k = 0; k < 10; k++) {
            house.answer("input", k, k);
            house.answer("make", 10 + k, 4, k, 23);
        }
        for (int kind = 0; kind < 3; kind++) {
            house.answer("make", 20 + kind, kind, 0, 1);
        }
        house.answer("constant", 23, 1);
        for (int p = 0; p < 24; p++) {
            for (int q = p; q < 24; q++) {
                CHECK.due("terms 1: all places in use, alike(" + p + ", " + q + ")", house.answer("alike", p, q),
                    Boolean.toString(p == q));
            }
            String count = p < 20 ? "512" : new String[] {"256", "768", "512", "1024"}[p - 20];
            CHECK.due("terms 1: all places in use, count(" + p + ")", house.answer("count", p), count);
        }
        CHECK.due("terms 2: all places in use, the whole size", house.answer("size", -1), "23");
        CHECK.due("terms 2: all places in use, questions(0)", house.answer("questions", 0), "5");
        CHECK.due("terms 2: all places in use, questions(1)", house.answer("questions", 1), "2");
    }

    private static void firstOrder() {
        CHECK.run("terms 2: the order is 0, 1, .. at first", Rows.orderIs(Rows.FIRST_ORDER));
    }

    private static void askedOnlyIfItDepends() {
        CHECK.run("terms 2: each only if what is left depends on it", "input(0, 0)", "input(1, 4)", "input(2, 9)",
            "choose(3, 1, 0, 2)", "asked(3, 0, 0) = 0", "asked(3, 0, 1) = 4", "asked(3, 0, 2) = 9", "asked(3, 0, 3) = -1",
            "asked(3, 16, 1) = 4", "asked(3, 16, 2) = -1", "asked(3, 1, 2) = 9", "size(3) = 4", "move(4, 0)",
            "asked(3, 0, 0) = 4", "asked(3, 0, 1) = 9", "asked(3, 0, 2) = -1", "asked(3, 16, 1) = 0",
            "asked(3, 16, 2) = -1", "size(3) = 3");
    }

    private static void alikeQuestionsAreOne() {
        CHECK.run("terms 2: alike in several places", "input(0, 5)", "input(23, 5)", "size(-1) = 1", "size(0) = 1",
            "size(23) = 1", "questions(5) = 1");
        CHECK.run("terms 2: the same input, another function left", "input(0, 5)", "make(23, 4, 0, 22)", "size(-1) = 2",
            "size(0) = 1", "size(23) = 1", "questions(5) = 2");
        CHECK.run("terms 2: alike in one function", Rows.join(Rows.odd(0, 1), "size(0) = 19", "questions(0) = 1",
            "questions(1) = 2", "questions(9) = 2"));
        CHECK.run("terms 2: one function is a part of another", "input(0, 8)", "input(1, 9)", "make(2, 0, 0, 1)",
            "constant(0, 0)", "size(1) = 1", "size(2) = 2", "size(-1) = 2", "move(9, 0) = 3", "size(2) = 2");
    }

    private static void sizesOfNothingAndOfAll() {
        CHECK.run("terms 2: no questions for 0 and 1", "constant(0, 1)", "size(0) = 0", "size(1) = 0", "size(-1) = 0",
            "asked(0, 1023, 0) = -1", "asked(1, 1023, 0) = -1", "questions(0) = 0");
        CHECK.run("terms 2: the largest function goes", Rows.join(Rows.largestOfOne(Rows.FIRST_ORDER), "size(7) = 269",
            "constant(7, 1)", "size(7) = 0", "size(-1) = 0"));
        String[] gone = new String[24];
        for (int p = 0; p < 24; p++) {
            gone[p] = "constant(" + p + ", " + p % 2 + ") = done";
        }
        CHECK.run("terms 2: the largest whole goes", Rows.join(Rows.largestOfAll(Rows.FIRST_ORDER), "size(-1) = 3302",
            gone, "size(-1) = 0", "questions(9) = 0", "siftAll() = 0"));
    }

    /** The most questions that ten inputs and 24 places can have, in several orders, and moved out of them and back. */
    private static void largestInEachOrder() {
        for (String order : ORDERS) {
            char first = order.charAt(0);
            char middle = order.charAt(6);
            char last = order.charAt(9);
            CHECK.run("terms 2: the largest function, order " + order, Rows.join(Rows.moveAllTo(order),
                Rows.largestOfOne(order), "size(7) = 269", "size(-1) = 269", questionsAre(order, 1, 128),
                "move(" + last + ", 0)", "move(" + last + ", 9) = 269", "size(7) = 269"));
            CHECK.run("terms 2: the largest whole, order " + order, Rows.join(Rows.moveAllTo(order),
                Rows.largestOfAll(order), "size(-1) = 3302", questionsAre(order, 24, 240), "move(" + middle + ", 0)",
                "move(" + middle + ", 6) = 3302", "move(" + first + ", 9)", "move(" + first + ", 0) = 3302",
                "move(" + last + ", 0)", "move(" + last + ", 9) = 3302", Rows.orderIs(order)));
            CHECK.run("terms 2: the largest whole in an order that comes behind it, " + order, Rows.join(
                Rows.largestOfAll(order), Rows.moveAllTo(order), "size(-1) = 3302", questionsAre(order, 24, 240)));
        }
    }

    /** Twice as many for each input more, but for the last three: there are no more functions of so few inputs. */
    private static String[] questionsAre(String order, int ofFirst, int ofLastButTwo) {
        String[] rows = new String[10];
        for (int i = 0; i < 10; i++) {
            int due = i < 7 ? ofFirst << i : i == 7 ? ofLastButTwo : i == 8 ? 12 : 2;
            rows[i] = "questions(" + order.charAt(i) + ") = " + due;
        }
        return rows;
    }

    /** Each input from each place of the order to each, with the order turned round before. */
    private static void everyMove() {
        for (int from = 0; from < 10; from++) {
            for (int to = 0; to < 10; to++) {
                StringBuilder order = new StringBuilder("9876543210");
                char k = order.charAt(from);
                order.deleteCharAt(from).insert(to, k);
                CHECK.run("moving: the others stay behind one another, " + from + " to " + to, Rows.join("siftAll() = 0",
                    Rows.orderIs("9876543210"), "move(" + k + ", " + to + ") = 0", Rows.orderIs(order.toString())));
            }
        }
    }

    private static void siftingToTheOnlyBest() {
        for (int k = 0; k < 10; k++) {
            for (int from = 0; from < 10; from++) {
                CHECK.run("sifting: one place alone is best, input " + k + " from " + from, Rows.join(Rows.tails(),
                    "move(" + k + ", " + from + ")", "sift(" + k + ") = " + k, "size(-1) = 10",
                    Rows.orderIs(Rows.FIRST_ORDER)));
            }
        }
    }

    /** (0 and 1) or (2 and 3): 3 is as good at place 2 as at its own and at all behind it. */
    private static void siftingToTheFirstOfSeveral() {
        String[] twoPairs = {"input(0, 0)", "input(1, 1)", "input(2, 2)", "input(3, 3)", "make(0, 0, 0, 1)",
            "make(2, 0, 2, 3)", "make(0, 1, 0, 2)", "constant(1, 0)", "constant(2, 0)", "constant(3, 0)"};
        for (int from = 0; from < 10; from++) {
            CHECK.run("sifting: of several the first, from " + from, Rows.join(twoPairs, "move(3, " + from + ")",
                "sift(3) = 2", "size(-1) = 4", Rows.orderIs("0132456789")));
            CHECK.run("sifting: an input that no function has, from " + from, Rows.join(twoPairs,
                "move(7, " + from + ") = 4", "sift(7) = 0", Rows.orderIs("7012345689")));
            CHECK.run("sifting: nothing is there, from " + from, Rows.join("move(9, " + from + ") = 0", "sift(9) = 0",
                Rows.orderIs("9012345678")));
            CHECK.run("sifting: a function of one input, from " + from, Rows.join("input(0, 5)",
                "move(5, " + from + ") = 1", "sift(5) = 0", Rows.orderIs("5012346789")));
        }
    }

    private static void severalExceptions() {
        REFUSED.by("terms: of several exceptions the one named first", Refused.INDEX, "constant(24, 2)", "input(-1, 10)",
            "make(0, 6, 0, 24)", "fix(0, 24, 10, 2)", "compose(0, 0, 10, 24)", "quantify(0, 24, 1024, true)",
            "meet(0, 0, 24, 1024)", "value(24, 1024)", "asked(0, 1024, -1)", "asked(24, 1024, 0)");
        REFUSED.by("terms: the second one alone", Refused.ARGUMENT, "constant(23, 2)", "input(23, 10)",
            "make(23, 6, 23, 23)", "fix(23, 23, 10, 2)", "compose(23, 23, 10, 23)", "quantify(23, 23, 1024, true)",
            "meet(23, 23, 23, 1024)", "value(23, 1024)", "asked(23, 1024, 0)");
    }

    private static void none() {
        CHECK.due("NONE", DiagramHouse.NONE, -1);
        DiagramHouse house = new DiagramHouse();
        house.input(0, 9);
        CHECK.due("NONE is taken by size()", house.size(DiagramHouse.NONE), 1);
        CHECK.due("NONE is answered by least()", house.least(1), DiagramHouse.NONE);
        CHECK.due("NONE is answered by asked()", house.asked(0, 0, 1), DiagramHouse.NONE);
        REFUSED.by("NONE is no place elsewhere", Refused.INDEX, "constant(-1, 0)", "input(-1, 0)", "make(-1, 0, 0, 0)",
            "choose(-1, 0, 0, 0)", "fix(-1, 0, 0, 0)", "compose(-1, 0, 0, 0)", "quantify(-1, 0, 0, false)",
            "meet(-1, 0, 0, 0)", "order(-1)", "count(-1)", "value(-1, 0)", "least(-1)", "support(-1)", "alike(-1, -1)",
            "asked(-1, 0, 0)", "asked(0, 0, -1)");
        REFUSED.by("NONE is no input and no set", Refused.ARGUMENT, "input(0, -1)", "fix(0, 0, -1, 0)",
            "compose(0, 0, -1, 0)", "quantify(0, 0, -1, true)", "meet(0, 0, 0, -1)", "move(-1, 0)", "move(0, -1)",
            "sift(-1)", "value(0, -1)", "questions(-1)");
    }
}
