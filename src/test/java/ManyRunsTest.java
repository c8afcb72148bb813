import java.util.Random;

/**
 * Many runs of 512 calls, one object after another: they must end within a time, and give
 * the answers that were due. The script runs this test without the compiler of the Java
 * machine, so that its time tells how much work the calls are and not how often they come.
 */
public final class ManyRunsTest {
    private static final int CALLS = 512;
    private static final int PLACES = 24;
    private static final int INPUTS = 10;
    private static final int SETS = 1024;

    /** Of the methods in the order of the document, the ends of the numbers that they take. */
    private static final int[][] ENDS = {
        {PLACES, 2}, {PLACES, INPUTS}, {PLACES, 6, PLACES, PLACES}, {PLACES, PLACES, PLACES, PLACES},
        {PLACES, PLACES, INPUTS, 2}, {PLACES, PLACES, INPUTS, PLACES}, {PLACES, PLACES, SETS, 2},
        {PLACES, PLACES, PLACES, SETS}, {INPUTS, INPUTS}, {INPUTS}, {}, {INPUTS}, {PLACES}, {PLACES},
        {PLACES, SETS}, {PLACES}, {PLACES}, {PLACES, PLACES}, {PLACES, SETS, INPUTS + 1}, {INPUTS}};
    private static final int INPUT = 1;
    private static final int MAKE = 2;
    private static final int CHOOSE = 3;
    private static final int COMPOSE = 5;
    private static final int QUANTIFY = 6;
    private static final int SIFT_ALL = 10;
    private static final int SIZE = 12;
    private static final int SUPPORT = 16;

    private static final Check CHECK = new Check();

    /** About a tenth of it is needed; drawing all diagrams anew at each call took more than twice this time. */
    private static final long MOST_MILLIS = 30_000;

    private static long millis = 0;

    public static void main(String[] args) {
        int[] large = {MAKE, MAKE, MAKE, CHOOSE, CHOOSE, COMPOSE, COMPOSE};
        runs("all methods alike", 300, 0, new int[] {}, 0x2bbe5a9de5bca639L);
        runs("places filled at first", 100, 23, new int[] {}, 0x964f707a52893d0eL);
        runs("large functions", 40, 60, large, 0xab7e4c6b013bd269L);
        runs("a function changes and the whole is asked", 100, 23, many(INPUT, SIZE), 0x275f1eb5998a2f0eL);
        runs("all are sifted", 4, 23, many(SIFT_ALL), 0xf70e084386629e2fL);
        runs("supports are asked", 200, 23, many(SUPPORT), 0xb94b83e343019d74L);
        runs("functions are quantified", 200, 23, many(QUANTIFY), 0xfabd3bcdf2f36909L);
        CHECK.due("all runs took " + millis + " ms, more than " + MOST_MILLIS, millis > MOST_MILLIS, false);
        CHECK.end();
    }

    /** So often that the other methods hardly come. */
    private static int[] many(int... methods) {
        int[] row = new int[1000];
        for (int i = 0; i < row.length; i++) {
            row[i] = methods[i % methods.length];
        }
        return row;
    }

    /**
     * Each run starts with so many calls that fill places; a method of the row is called more
     * often. The answers that are due, put together, are those of the class as it was when it
     * had no nodes but drew tables.
     */
    private static void runs(String name, int runs, int filling, int[] often, long due) {
        long start = System.nanoTime();
        long answers = 0;
        for (int run = 0; run < runs; run++) {
            answers = answers * 31 + run(run, filling, often);
        }
        long taken = (System.nanoTime() - start) / 1_000_000;
        millis += taken;
        System.out.println(runs + " runs, " + name + ": " + taken + " ms");
        CHECK.due(name + ": the answers together", Long.toHexString(answers), Long.toHexString(due));
    }

    private static long run(int seed, int filling, int[] often) {
        Random random = new Random(7919L * seed + 13);
        DiagramHouse house = new DiagramHouse();
        int[] given = new int[4];
        long answers = 0;
        for (int call = 0; call < CALLS; call++) {
            int method;
            if (call < filling) {
                method = call < INPUTS ? INPUT : MAKE;
                fill(given, call, random);
            } else {
                int chosen = random.nextInt(ENDS.length + often.length);
                method = chosen < ENDS.length ? chosen : often[chosen - ENDS.length];
                draw(given, method, random);
            }
            answers = answers * 1_000_003 + answer(house, method, given);
        }
        return answers;
    }

    private static void fill(int[] given, int call, Random random) {
        given[0] = call % PLACES;
        given[1] = call < INPUTS ? call : random.nextInt(6);
        given[2] = random.nextInt(Math.min(call + 1, PLACES));
        given[3] = random.nextInt(Math.min(call + 1, PLACES));
    }

    /** About one call of fifteen has a number that is out of its range. */
    private static void draw(int[] given, int method, Random random) {
        int[] ends = ENDS[method];
        for (int i = 0; i < ends.length; i++) {
            given[i] = random.nextInt(ends[i]);
            if (random.nextInt(15 * ends.length) == 0) {
                given[i] = random.nextBoolean() ? -1 - random.nextInt(2) : ends[i] + random.nextInt(3);
            }
        }
        if (method == SIZE && random.nextInt(3) == 0) {
            given[0] = DiagramHouse.NONE;
        }
    }

    private static int answer(DiagramHouse house, int method, int[] a) {
        try {
            switch (method) {
                case 0: house.constant(a[0], a[1]); return 7;
                case INPUT: house.input(a[0], a[1]); return 7;
                case MAKE: house.make(a[0], a[1], a[2], a[3]); return 7;
                case CHOOSE: house.choose(a[0], a[1], a[2], a[3]); return 7;
                case 4: house.fix(a[0], a[1], a[2], a[3]); return 7;
                case COMPOSE: house.compose(a[0], a[1], a[2], a[3]); return 7;
                case QUANTIFY: house.quantify(a[0], a[1], a[2], a[3] == 1); return 7;
                case 7: house.meet(a[0], a[1], a[2], a[3]); return 7;
                case 8: return house.move(a[0], a[1]);
                case 9: return house.sift(a[0]);
                case SIFT_ALL: return house.siftAll();
                case 11: return house.order(a[0]);
                case SIZE: return house.size(a[0]);
                case 13: return house.count(a[0]);
                case 14: return house.value(a[0], a[1]) ? 1 : 0;
                case 15: return house.least(a[0]);
                case SUPPORT: return house.support(a[0]);
                case 17: return house.alike(a[0], a[1]) ? 1 : 0;
                case 18: return house.asked(a[0], a[1], a[2]);
                default: return house.questions(a[0]);
            }
        } catch (IllegalArgumentException e) {
            return -77;
        } catch (IndexOutOfBoundsException e) {
            return -78;
        }
    }
}
