import java.util.ArrayList;
import java.util.List;

/** Every wrong argument of every method: which exception is thrown, and that nothing changes by it. */
public final class WrongInputsTest {
    private static final String INDEX = "throws.IndexOutOfBoundsException";
    private static final String ARGUMENT = "throws.IllegalArgumentException";

    /** What each argument is: p a place, P a place or NONE, i a place of the order, n from 0 on, b a boolean. */
    private static final String[][] METHODS = {
        {"constant", "pv"}, {"input", "pk"}, {"make", "pjpp"}, {"choose", "pppp"}, {"fix", "ppkv"}, {"compose", "ppkp"},
        {"quantify", "ppsb"}, {"meet", "ppps"}, {"move", "kk"}, {"sift", "k"}, {"order", "i"}, {"size", "P"},
        {"count", "p"}, {"value", "ps"}, {"least", "p"}, {"support", "p"}, {"alike", "pp"}, {"asked", "psn"},
        {"questions", "k"}};

    private static final Check CHECK = new Check();

    public static void main(String[] args) {
        for (String[] method : METHODS) {
            tryAll(method[0], method[1]);
        }
        CHECK.end();
    }

    private static void tryAll(String name, String kinds) {
        Caller house = new Caller(new DiagramHouse());
        fill(house);
        String before = state(house);
        int[] arguments = new int[kinds.length()];
        tryFrom(house, name, kinds, arguments, 0);
        CHECK.due(name + " with wrong arguments leaves the state", state(house), before);
    }

    /** Tries all rows of arguments with at least one wrong one. */
    private static void tryFrom(Caller house, String name, String kinds, int[] arguments, int next) {
        if (next == arguments.length) {
            String want = due(kinds, arguments);
            if (want != null) {
                CHECK.due(name + java.util.Arrays.toString(arguments), house.answer(name, arguments), want);
            }
            return;
        }
        for (int number : numbers(kinds.charAt(next))) {
            arguments[next] = number;
            tryFrom(house, name, kinds, arguments, next + 1);
        }
    }

    private static int end(char kind) {
        return switch (kind) {
            case 'p', 'P' -> 24;
            case 'v', 'b' -> 2;
            case 'j' -> 6;
            case 's' -> 1024;
            case 'n' -> Integer.MAX_VALUE;
            default -> 10;
        };
    }

    private static int[] numbers(char kind) {
        if (kind == 'b') {
            return new int[] {0, 1};
        }
        int end = end(kind);
        return new int[] {Integer.MIN_VALUE, -2, -1, 0, end - 1, end, Integer.MAX_VALUE};
    }

    /** The exception that is due, or null if all arguments are right. An index goes before an argument. */
    private static String due(String kinds, int[] arguments) {
        String due = null;
        for (int i = 0; i < arguments.length; i++) {
            char kind = kinds.charAt(i);
            int least = kind == 'P' ? -1 : 0;
            boolean wrong = arguments[i] < least || kind != 'n' && arguments[i] >= end(kind);
            if (wrong && "pPin".indexOf(kind) >= 0) {
                return INDEX;
            }
            if (wrong) {
                due = ARGUMENT;
            }
        }
        return due;
    }

    private static void fill(Caller house) {
        for (int p = 0; p < 10; p++) {
            house.answer("input", p, p);
        }
        for (int p = 10; p < 24; p++) {
            house.answer("make", p, p % 6, p - 10, p - 3);
        }
        house.answer("move", 7, 1);
        house.answer("move", 0, 9);
    }

    private static String state(Caller house) {
        List<String> told = new ArrayList<>();
        for (int k = 0; k < 10; k++) {
            told.add(house.answer("order", k));
            told.add(house.answer("questions", k));
        }
        for (int p = 0; p < 24; p++) {
            told.add(house.answer("size", p));
            for (int x = 0; x < 1024; x++) {
                told.add(house.answer("value", p, x).substring(0, 1));
            }
        }
        return String.join("", told);
    }
}
