import java.util.Arrays;
import java.util.Random;

/** Runs of 512 calls on the class and on the plain model: every answer must be the same. */
public final class RandomRunsTest {
    /** With the 128 calls that compare all at the end an object has 512. */
    private static final int CALLS = 384;

    /** The methods of a run; one that stands more often is called more often. */
    private static final String[] ALL = {
        "constant", "input", "input", "make", "make", "make", "choose", "fix", "compose", "quantify", "meet",
        "move", "sift", "siftAll", "order", "size", "count", "value", "least", "support", "alike", "asked", "questions"};
    private static final String[] ORDERING = {
        "make", "input", "choose", "move", "sift", "siftAll", "order", "size", "questions", "asked"};
    private static final String[] MAKING = {
        "input", "make", "choose", "fix", "compose", "quantify", "meet", "value", "count", "least", "support", "alike"};

    private static final Check CHECK = new Check();

    public static void main(String[] args) {
        for (int seed = 0; seed < 12; seed++) {
            run("all", seed, ALL, 0, 12);
            run("ordering", seed, ORDERING, 10, 30);
            run("making", seed, MAKING, 10, 30);
            run("few places", seed, ALL, 4, 0);
        }
        for (int seed = 0; seed < 4; seed++) {
            growingRun(seed);
            narrowRun(seed);
        }
        for (int seed = 0; seed < 2; seed++) {
            denseRun(seed);
        }
        CHECK.end();
    }

    private static void run(String name, int seed, String[] methods, int inputs, int wrongEach) {
        Random random = new Random(7919L * seed + name.hashCode());
        Caller real = new Caller(new DiagramHouse());
        Caller plain = new Caller(new PlainHouse());
        for (int call = 0; call < CALLS; call++) {
            boolean starting = call < inputs;
            String method = starting ? "input" : methods[random.nextInt(methods.length)];
            int[] arguments = starting ? new int[] {call, call} : arguments(method, random, wrongEach);
            if (!compare(name + " run " + seed + ", call " + call, real, plain, method, arguments)) {
                return;
            }
        }
        compareAll(name + " run " + seed + " at its end", real, plain);
    }

    private static boolean compare(String what, Caller real, Caller plain, String method, int... arguments) {
        String got = real.answer(method, arguments);
        String want = plain.answer(method, arguments);
        CHECK.due(what + " " + method + Arrays.toString(arguments), got, want);
        return got.equals(want);
    }

    /** Products of functions are put onto others until all places are as if drawn by lot: the most nodes. */
    private static void denseRun(int seed) {
        Random random = new Random(seed);
        String what = "dense run " + seed;
        Caller real = new Caller(new DiagramHouse());
        Caller plain = new Caller(new PlainHouse());
        for (int p = 0; p < 23; p++) {
            compare(what, real, plain, "input", p, p % 10);
        }
        for (int turn = 0; turn < 178; turn++) {
            compare(what, real, plain, "make", 23, random.nextInt(2), random.nextInt(23), random.nextInt(23));
            compare(what, real, plain, "make", turn % 23, 2, turn % 23, 23);
        }
        compare(what, real, plain, "make", 23, 2, 23, 0);
        String whole = real.answer("size", -1);
        CHECK.due(what + " has large diagrams: " + whole, Integer.parseInt(whole) > 3200, true);
        compare(what, real, plain, "sift", random.nextInt(10));
        compare(what, real, plain, "move", random.nextInt(10), random.nextInt(10));
        compareAll(what, real, plain);
    }

    /** Functions of pairs of neighbours: small in the order at first, large when the pairs are far apart. */
    private static void growingRun(int seed) {
        Random random = new Random(seed);
        String what = "growing run " + seed;
        Caller real = new Caller(new DiagramHouse());
        Caller plain = new Caller(new PlainHouse());
        for (int p = 0; p < 10; p++) {
            compare(what, real, plain, "input", p, p);
        }
        for (int p = 10; p < 23; p++) {
            compare(what, real, plain, "make", p, random.nextInt(6), 0, 1);
            for (int pair = 2; pair < 10; pair += 2) {
                compare(what, real, plain, "make", 23, random.nextInt(6), pair, pair + 1);
                compare(what, real, plain, "make", p, random.nextInt(3), p, 23);
            }
        }
        compare(what, real, plain, "size", -1);
        for (int k = 2; k < 10; k += 2) {
            compare(what, real, plain, "move", k, k / 2);
            if (seed % 2 == 1) {
                compare(what, real, plain, "sift", random.nextInt(10));
            }
        }
        for (int turn = 0; turn < 5; turn++) {
            compare(what, real, plain, "move", random.nextInt(10), random.nextInt(10));
            compare(what, real, plain, "sift", random.nextInt(10));
        }
        compareAll(what, real, plain);
    }

    /** Functions of five inputs, others at each place, so that there is little room beside the nodes. */
    private static void narrowRun(int seed) {
        Random random = new Random(seed);
        String what = "narrow run " + seed;
        Caller real = new Caller(new DiagramHouse());
        Caller plain = new Caller(new PlainHouse());
        for (int p = 0; p < 10; p++) {
            compare(what, real, plain, "input", p, p);
        }
        for (int p = 10; p < 24; p++) {
            int shift = random.nextInt(10);
            compare(what, real, plain, "make", p, random.nextInt(6), shift, (shift + 3) % 10);
            for (int more = 0; more < 8; more++) {
                int q = (shift + 3 * random.nextInt(5)) % 10;
                compare(what, real, plain, "choose", p, q, p, (shift + 3 * random.nextInt(5)) % 10);
                compare(what, real, plain, "make", p, 2 + random.nextInt(2), p, (shift + 3 * random.nextInt(5)) % 10);
            }
            if (seed % 2 == 1) {
                compare(what, real, plain, "size", -1);
                compare(what, real, plain, "sift", random.nextInt(10));
                compare(what, real, plain, "move", random.nextInt(10), random.nextInt(10));
                compare(what, real, plain, "size", p);
            }
        }
        compareAll(what, real, plain);
    }

    private static void compareAll(String what, Caller real, Caller plain) {
        compare(what, real, plain, "size", -1);
        for (int p = 0; p < 24; p++) {
            for (String method : new String[] {"size", "count", "least", "support"}) {
                compare(what, real, plain, method, p);
            }
        }
        for (int k = 0; k < 10; k++) {
            compare(what, real, plain, "order", k);
            compare(what, real, plain, "questions", k);
        }
        compare(what, real, plain, "siftAll");
        for (int k = 0; k < 10; k++) {
            compare(what + " sifted", real, plain, "order", k);
        }
    }

    /** One argument of about wrongEach is out of its range; none if wrongEach is 0. */
    private static int[] arguments(String method, Random random, int wrongEach) {
        int places = wrongEach == 0 ? 4 : 24;
        int[] ends = switch (method) {
            case "constant" -> new int[] {places, 2};
            case "input" -> new int[] {places, 10};
            case "make" -> new int[] {places, 6, places, places};
            case "choose" -> new int[] {places, places, places, places};
            case "fix" -> new int[] {places, places, 10, 2};
            case "compose" -> new int[] {places, places, 10, places};
            case "quantify" -> new int[] {places, places, 1024, 2};
            case "meet" -> new int[] {places, places, places, 1024};
            case "move" -> new int[] {10, 10};
            case "sift", "order", "questions" -> new int[] {10};
            case "siftAll" -> new int[] {};
            case "value" -> new int[] {places, 1024};
            case "alike" -> new int[] {places, places};
            case "asked" -> new int[] {places, 1024, 11};
            default -> new int[] {places};
        };
        int[] arguments = new int[ends.length];
        for (int i = 0; i < ends.length; i++) {
            boolean wrong = wrongEach > 0 && random.nextInt(wrongEach * ends.length) == 0;
            arguments[i] = wrong ? wrongNumber(ends[i], random) : random.nextInt(ends[i]);
        }
        if (method.equals("quantify") || method.equals("meet")) {
            int set = method.equals("meet") ? 3 : 2;
            if (arguments[set] > 0 && random.nextBoolean()) {
                arguments[set] &= random.nextInt(1024) & random.nextInt(1024);
            }
        }
        return arguments;
    }

    private static int wrongNumber(int end, Random random) {
        return switch (random.nextInt(6)) {
            case 0 -> -1;
            case 1 -> -2;
            case 2 -> Integer.MIN_VALUE;
            case 3 -> Integer.MAX_VALUE;
            case 4 -> end + 1;
            default -> end;
        };
    }
}
