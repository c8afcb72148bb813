import java.util.StringJoiner;

/** What a house tells of itself, as one text. The house is sifted behind it. */
final class State {
    /** So many calls it takes. */
    static final int CALLS = 272;
    private static final int[] SOME_INPUTS = {0, 1, 341, 682, 1023};

    static final String NEW = of(new Caller(new DiagramHouse()));
    static final String FULL = of(full());

    /** A house with a function of its own at each place and another order; some places are not drawn yet. */
    static Caller full() {
        Caller house = new Caller(new DiagramHouse());
        for (int p = 0; p < 10; p++) {
            house.answer("input", p, p);
        }
        for (int p = 10; p < 24; p++) {
            house.answer("make", p, p % 6, p - 10, p - 3);
        }
        house.answer("move", 7, 1);
        house.answer("move", 0, 9);
        house.answer("choose", 21, 4, 20, 19);
        house.answer("make", 0, 2, 0, 23);
        return house;
    }

    static String of(Caller house) {
        StringJoiner told = new StringJoiner(" ");
        for (int i = 0; i < 10; i++) {
            told.add("order " + house.answer("order", i));
            told.add("questions " + house.answer("questions", i));
        }
        told.add("whole " + house.answer("size", -1));
        for (int p = 0; p < 24; p++) {
            told.add("place " + p);
            for (String method : new String[] {"size", "count", "least", "support"}) {
                told.add(house.answer(method, p));
            }
            for (int inputs : SOME_INPUTS) {
                told.add(house.answer("value", p, inputs));
            }
            told.add(house.answer("asked", p, 0, 0));
        }
        told.add("sifted " + house.answer("siftAll"));
        for (int i = 0; i < 10; i++) {
            told.add(house.answer("order", i));
        }
        return told.toString();
    }
}
