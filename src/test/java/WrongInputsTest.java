/** Every wrong argument of every method: which exception is thrown, and that nothing changes by it. */
public final class WrongInputsTest {
    private static final String INDEX = "throws.IndexOutOfBoundsException";
    private static final String ARGUMENT = "throws.IllegalArgumentException";

    /** What each argument is: p a place, P a place or NONE, i a place of the order, n from 0 on, b a boolean. */
    private static final String[][] METHODS = {
        {"constant", "pv"}, {"input", "pk"}, {"make", "pjpp"}, {"choose", "pppp"}, {"fix", "ppkv"}, {"compose", "ppkp"},
        {"quantify", "ppsb"}, {"meet", "ppps"}, {"move", "kk"}, {"sift", "k"}, {"order", "i"}, {"size", "P"},
        {"count", "p"}, {"value", "ps"}, {"least", "p"}, {"support", "p"}, {"alike", "pp"}, {"asked", "psn"},
        {"questions", "k"}};

    private static final Check CHECK = new Check();

    private static Caller house;

    public static void main(String[] args) {
        for (String[] method : METHODS) {
            tryAll(method[0], method[1]);
        }
        CHECK.end();
    }

    private static void tryAll(String name, String kinds) {
        house = State.full();
        tryFrom(name, kinds, new int[kinds.length()], 0);
        lookAtState(name);
    }

    /** Tries all rows of arguments with at least one wrong one. */
    private static void tryFrom(String name, String kinds, int[] arguments, int next) {
        if (next == arguments.length) {
            String want = due(kinds, arguments);
            if (want != null) {
                CHECK.due(name + java.util.Arrays.toString(arguments), house.answer(name, arguments), want);
                takeAnotherHouse(name);
            }
            return;
        }
        for (int number : numbers(kinds.charAt(next))) {
            arguments[next] = number;
            tryFrom(name, kinds, arguments, next + 1);
        }
    }

    /** So many refused calls on one house that it can still tell its state. */
    private static void takeAnotherHouse(String name) {
        if (house.callsLeft() <= State.CALLS) {
            lookAtState(name);
            house = State.full();
        }
    }

    private static void lookAtState(String name) {
        CHECK.due(name + " with wrong arguments leaves the state", State.of(house), State.FULL);
    }

    private static int end(char kind) {
        return switch (kind) {
            case 'p', 'P' -> 24;
            case 'v', 'b' -> 2;
            case 'j' -> 6;
            case 's' -> 1024;
            case 'n' -> Integer.MAX_VALUE;
            default -> 10;
        };
    }

    private static int[] numbers(char kind) {
        if (kind == 'b') {
            return new int[] {0, 1};
        }
        int end = end(kind);
        return new int[] {Integer.MIN_VALUE, -2, -1, 0, end - 1, end, Integer.MAX_VALUE};
    }

    /** The exception that is due, or null if all arguments are right. An index goes before an argument. */
    private static String due(String kinds, int[] arguments) {
        String due = null;
        for (int i = 0; i < arguments.length; i++) {
            char kind = kinds.charAt(i);
            int least = kind == 'P' ? -1 : 0;
            boolean wrong = arguments[i] < least || kind != 'n' && arguments[i] >= end(kind);
            if (wrong && "pPin".indexOf(kind) >= 0) {
                return INDEX;
            }
            if (wrong) {
                due = ARGUMENT;
            }
        }
        return due;
    }
}
