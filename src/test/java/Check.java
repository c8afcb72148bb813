/** Counts the answers that are not as due, and ends a test with them. */
final class Check {
    private static final int MOST_SHOWN = 40;

    private int asked = 0;
    private int wrong = 0;

    void due(String what, Object got, Object want) {
        asked++;
        if (!want.equals(got)) {
            wrong++;
            if (wrong <= MOST_SHOWN) {
                System.out.println(what + " answered " + got + ", due is " + want);
            }
        }
    }

    /** Each row is "call" (its answer is not looked at, but it must not throw) or "call = answer". */
    void run(String name, String... rows) {
        Caller caller = new Caller(new DiagramHouse());
        int number = 0;
        for (String row : rows) {
            number++;
            int equals = row.indexOf('=');
            String call = equals < 0 ? row : row.substring(0, equals);
            String got = caller.answerText(call);
            String what = name + ", row " + number + ": " + call.trim();
            if (equals >= 0) {
                due(what, got, row.substring(equals + 1).trim());
            } else {
                due(what + " throws", got.startsWith("throws."), false);
            }
        }
    }

    void end() {
        System.out.println(asked + " answers looked at, " + wrong + " not as due");
        if (wrong != 0 || asked == 0) {
            System.exit(1);
        }
    }
}
