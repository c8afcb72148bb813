/**
 * Calls that are to be refused. Each is tried on a new object and on one in full use: it
 * throws what is due, and nothing has changed behind it.
 */
final class Refused {
    static final String INDEX = "IndexOutOfBoundsException";
    static final String ARGUMENT = "IllegalArgumentException";

    /** Those just outside come first, then the least and the greatest int, then some that have right bits. */
    static final String[] NO_PLACES = {"-1", "24", "-2147483648", "2147483647", "-2", "25", "32", "-24", "256"};
    static final String[] NO_INPUTS = {"-1", "10", "-2147483648", "2147483647", "-2", "11", "16", "32"};
    static final String[] NO_SETS = {"-1", "1024", "-2147483648", "2147483647", "-2", "1025", "2047", "-1024"};
    static final String[] NO_TRUTHS = {"-1", "2", "-2147483648", "2147483647", "3", "256"};
    static final String[] NO_KINDS = {"-1", "6", "-2147483648", "2147483647", "7", "8"};

    private final Check check;

    Refused(Check check) {
        this.check = check;
    }

    void by(String name, String exception, String... calls) {
        for (String call : calls) {
            one(new Caller(new DiagramHouse()), State.NEW, name + ", new: " + call, exception, call);
            one(State.full(), State.FULL, name + ", in full use: " + call, exception, call);
        }
    }

    private void one(Caller house, String state, String what, String exception, String call) {
        check.due(what, house.answerText(call), "throws." + exception);
        check.due(what + ", the state behind it", State.of(house), state);
    }

    /** Each call with every number that is no place for the question marks in it. */
    void noPlace(String name, String... calls) {
        for (String call : calls) {
            by(name + ": no such place", INDEX, with(call, NO_PLACES));
        }
    }

    void wrong(String name, String[] numbers, String... calls) {
        for (String call : calls) {
            by(name, ARGUMENT, with(call, numbers));
        }
    }

    static String[] with(String call, String[] numbers) {
        String[] calls = new String[numbers.length];
        for (int i = 0; i < calls.length; i++) {
            calls[i] = call.replace("?", numbers[i]);
        }
        return calls;
    }
}
