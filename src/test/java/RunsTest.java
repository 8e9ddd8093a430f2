/** All promises: runs of 512 calls with right and wrong numbers, beside the model. */
public final class RunsTest {
    private static final Check CHECK = new Check("RunsTest");
    private static final int RUNS = 150;

    private RunsTest() {
    }

    public static void main(String[] args) {
        for (int run = 0; run < RUNS; run++) {
            Numbers numbers = new Numbers(run);
            int size = run % 8 < 6 ? run % 8 : numbers.pick(-7, 9, Integer.MIN_VALUE,
                    Integer.MAX_VALUE);
            Pair pair = new Pair(CHECK, "run " + run, size);
            pair.lookAtAll();
            while (pair.callsLeft() > lastLook(pair)) {
                step(pair, numbers);
            }
            pair.lookAtAll();
            CHECK.due("run " + run + ": calls left of the 512", 0, pair.callsLeft());
        }
        CHECK.end();
    }

    /** The calls that a look at all entries takes, the last ones of each run. */
    private static int lastLook(Pair pair) {
        return 4 * pair.rows() * pair.rows();
    }

    private static void step(Pair pair, Numbers numbers) {
        int a = register(numbers);
        int b = register(numbers);
        int d = register(numbers);
        int cells = pair.rows() * pair.rows();
        switch (numbers.below(24)) {
            case 0 -> pair.get(a, wrongOr(numbers, numbers.below(cells), -1, cells));
            case 1 -> pair.apply(wrongOr(numbers, numbers.below(3), -1, 3), d, a, b);
            case 2 -> pair.power(d, a, wrongOr(numbers, exponent(numbers), -1, 1_000_000_001));
            case 3 -> pair.valueAt(d, a, wrongOr(numbers, numbers.below(3125), -1, 3125));
            case 4 -> pair.invert(d, a);
            case 5 -> pair.normal(d, a);
            case 6 -> pair.determinant(a);
            case 7 -> pair.characteristic(a);
            case 8 -> pair.minimal(a);
            case 9, 10 -> pair.invariant(a, wrongOr(numbers, numbers.below(4), -1, 4));
            case 11 -> pair.similar(a, b);
            case 12 -> pair.order(a);
            case 13, 14 -> pair.eigen(a, wrongOr(numbers, numbers.below(5), -1, 5));
            case 15 -> pair.diagonal(a);
            case 16 -> pair.commutant(a);
            case 17 -> makeAlike(pair, numbers);
            default -> pair.set(a, wrongOr(numbers, numbers.below(cells), -1, cells),
                    wrongOr(numbers, numbers.pick(0, 0, 0, 1, 2, 3, 4), -1, 5));
        }
    }

    /** Register 3 becomes a change of base, and register 1 what it makes of register 0. */
    private static void makeAlike(Pair pair, Numbers numbers) {
        int calls = pair.rows() * pair.rows() + 4;
        if (pair.callsLeft() < calls + lastLook(pair)) {
            return;
        }
        pair.fill(3, Matrices.invertible(numbers, pair.rows()));
        pair.apply(2, 1, 0, 3);
        pair.invert(3, 3);
        pair.apply(2, 1, 3, 1);
        pair.similar(0, 1);
    }

    private static int register(Numbers numbers) {
        return wrongOr(numbers, numbers.below(4), -1, 4);
    }

    private static int exponent(Numbers numbers) {
        return numbers.pick(numbers.below(8), numbers.below(1000), numbers.below(1_000_000_001),
                0, 1_000_000_000);
    }

    /** Mostly the right number; now and then one just outside its range, or far outside. */
    private static int wrongOr(Numbers numbers, int right, int under, int over) {
        return numbers.below(30) != 0 ? right
                : numbers.pick(under, over, Integer.MIN_VALUE, Integer.MAX_VALUE);
    }
}
