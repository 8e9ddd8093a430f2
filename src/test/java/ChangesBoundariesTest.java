/**
 * The boundary cases of a new object and of the calls that change a register (promises 1 to 8).
 * Each sentence of the document that names one has a test of its own here.
 */
public final class ChangesBoundariesTest {
    private static final Check CHECK = new Check("ChangesBoundariesTest");
    private static final Desks DESKS = new Desks(CHECK);
    private static final int LEAST = Desks.LEAST;
    private static final int MOST = Desks.MOST;
    private static final int MOST_EXPONENT = 1_000_000_000;

    private interface Call {
        boolean on(SimilarityDesk desk, int wrong);
    }

    private ChangesBoundariesTest() {
    }

    public static void main(String[] args) {
        newObject();
        set();
        get();
        apply();
        power();
        valueAt();
        invert();
        normal();
        CHECK.end();
    }

    /** With each wrong number, on desks of each size: answers false, and no register changes. */
    private static void refused(String name, int[] wrongs, Call call) {
        for (int size = 1; size <= 4; size++) {
            SimilarityDesk desk = DESKS.full(size);
            for (int wrong : wrongs) {
                CHECK.due(name + " of " + wrong + ", N = " + size, false, call.on(desk, wrong));
            }
            DESKS.stillFull("refused " + name, desk, size, -1);
        }
    }

    private static void newObject() {
        CHECK.sentence("1: size too small is clamped to 1", () -> {
            for (int size : new int[] {0, -1, -2, -4, LEAST + 2, LEAST}) {
                hasRows(size, 1);
            }
        });
        CHECK.sentence("1: size too large is clamped to 4", () -> {
            for (int size : new int[] {5, 6, 8, 16, 1 << 30, MOST}) {
                hasRows(size, 4);
            }
        });
        CHECK.sentence("1: size in 1..4 is N", () -> {
            for (int size = 1; size <= 4; size++) {
                hasRows(size, size);
            }
        });
        CHECK.sentence("1: each register holds at first only 0",
                ChangesBoundariesTest::registersAreEmptyAtFirst);
        CHECK.sentence("1: there are 4 registers, each with a matrix of its own",
                ChangesBoundariesTest::registersAreApart);
        CHECK.sentence("1: an object is used for 512 calls", ChangesBoundariesTest::lastCalls);
    }

    private static void hasRows(int size, int rows) {
        SimilarityDesk desk = new SimilarityDesk(size);
        String name = "new(" + size + ") ";
        for (int r = 0; r < 4; r++) {
            CHECK.due(name + "last entry", 0, desk.get(r, rows * rows - 1));
            CHECK.due(name + "behind it", -1, desk.get(r, rows * rows));
            CHECK.due(name + "set last entry", true, desk.set(r, rows * rows - 1, 0));
            CHECK.due(name + "set behind it", false, desk.set(r, rows * rows, 0));
        }
        CHECK.due(name + "commutant", rows * rows, desk.commutant(0));
        CHECK.due(name + "eigen", rows, desk.eigen(3, 0));
    }

    private static void registersAreEmptyAtFirst() {
        for (int size = 1; size <= 4; size++) {
            SimilarityDesk earlier = DESKS.full(size);
            SimilarityDesk desk = new SimilarityDesk(size);
            for (int r = 0; r < 4; r++) {
                DESKS.holds("a new object", desk, r, new int[size * size]);
            }
            DESKS.stillFull("the object made before", earlier, size, -1);
        }
    }

    private static void registersAreApart() {
        for (int size = 1; size <= 4; size++) {
            for (int r = 0; r < 4; r++) {
                SimilarityDesk desk = DESKS.full(size);
                DESKS.fill(desk, r, new int[size * size]);
                DESKS.holds("emptied", desk, r, new int[size * size]);
                DESKS.stillFull("another register was emptied", desk, size, r);
            }
        }
    }

    /** Each method once as the last call that the document still speaks of. */
    private static void lastCalls() {
        CHECK.due("set", true, afterMany().set(1, 3, 4));
        CHECK.due("get", 4, afterMany().get(0, 3));
        CHECK.due("apply", true, afterMany().apply(2, 1, 0, 0));
        CHECK.due("power", true, afterMany().power(1, 0, MOST_EXPONENT));
        CHECK.due("valueAt", true, afterMany().valueAt(1, 0, 3124));
        CHECK.due("invert", true, afterMany().invert(1, 0));
        CHECK.due("normal", true, afterMany().normal(1, 0));
        CHECK.due("determinant", 3, afterMany().determinant(0));
        CHECK.due("characteristic", 28, afterMany().characteristic(0));
        CHECK.due("minimal", 28, afterMany().minimal(0));
        CHECK.due("invariant", 28, afterMany().invariant(0, 0));
        CHECK.due("similar", true, afterMany().similar(0, 0));
        CHECK.due("order", 8, afterMany().order(0));
        CHECK.due("eigen", 2, afterMany().eigen(3, 0));
        CHECK.due("diagonal", true, afterMany().diagonal(3));
        CHECK.due("commutant", 2, afterMany().commutant(0));
    }

    /** 511 calls: 4 that fill register 0, the rest multiplying register 2, which stays 0. */
    private static SimilarityDesk afterMany() {
        SimilarityDesk desk = DESKS.with(2, 1, 2, 3, 4);
        for (int calls = 4; calls < 511; calls++) {
            CHECK.due("call " + (calls + 1), true, desk.apply(2, 2, 2, 0));
        }
        return desk;
    }

    private static void set() {
        CHECK.sentence("2: r outside 0..3: refused", () ->
            refused("set r", Desks.NO_REGISTER, (desk, wrong) -> desk.set(wrong, 0, 0)));
        CHECK.sentence("2: row or column outside 0..N-1: refused",
                ChangesBoundariesTest::setOutside);
        CHECK.sentence("2: value outside 0..4: refused", () ->
            refused("set value", new int[] {-1, 5, 6, -4, -5, 10, 1 << 30, LEAST, MOST},
                    (desk, wrong) -> desk.set(0, 0, wrong)));
        CHECK.sentence("2: several numbers outside: refused", () -> {
            int[] wrongs = {-1, 16, 1 << 28, LEAST, MOST};
            refused("set r, at", wrongs, (desk, wrong) -> desk.set(wrong, wrong, 0));
            refused("set r, value", wrongs, (desk, wrong) -> desk.set(wrong, 0, wrong));
            refused("set at, value", wrongs, (desk, wrong) -> desk.set(0, wrong, wrong));
            refused("set all", wrongs, (desk, wrong) -> desk.set(wrong, wrong, wrong));
        });
        CHECK.sentence("2: else true, and only that entry is set",
                ChangesBoundariesTest::setEachEntry);
        CHECK.sentence("2: value from 0 to 4: true", () -> {
            SimilarityDesk desk = new SimilarityDesk(1);
            for (int value : new int[] {4, 0, 1, 3, 2, 2, 0}) {
                CHECK.due("set value " + value, true, desk.set(0, 0, value));
                CHECK.due("get value " + value, value, desk.get(0, 0));
            }
        });
        CHECK.sentence("2: at is N * row + column", ChangesBoundariesTest::placesAreByRows);
    }

    private static int[] noPlaces(int size) {
        return new int[] {-1, -size, -16, LEAST, LEAST + 1, size * size, size * size + 1,
            size * size + size - 1, 16, 17, 1 << 28, MOST};
    }

    private static void setOutside() {
        for (int size = 1; size <= 4; size++) {
            SimilarityDesk desk = DESKS.full(size);
            for (int r = 0; r < 4; r++) {
                for (int wrong : noPlaces(size)) {
                    CHECK.due("set(" + r + ", " + wrong + ", 0)", false, desk.set(r, wrong, 0));
                }
            }
            DESKS.stillFull("refused set", desk, size, -1);
        }
    }

    private static void setEachEntry() {
        for (int size = 1; size <= 4; size++) {
            for (int r = 0; r < 4; r++) {
                for (int at = 0; at < size * size; at++) {
                    SimilarityDesk desk = DESKS.full(size);
                    CHECK.due("set(" + r + ", " + at + ", 0)", true, desk.set(r, at, 0));
                    int[] entries = Desks.fullEntries(size, r);
                    entries[at] = 0;
                    DESKS.holds("set one entry", desk, r, entries);
                    DESKS.stillFull("set one entry", desk, size, r);
                }
            }
        }
    }

    /** The product of one with a 1 in row 0 and one with a 1 in column 0 shows which is which. */
    private static void placesAreByRows() {
        for (int size = 2; size <= 4; size++) {
            for (int i = 1; i < size; i++) {
                SimilarityDesk desk = new SimilarityDesk(size);
                CHECK.due("row 0, column " + i, true, desk.set(0, i, 1));
                CHECK.due("row " + i + ", column 0", true, desk.set(1, size * i, 1));
                CHECK.due("product", true, desk.apply(SimilarityDesk.MUL, 2, 0, 1));
                int[] entries = new int[size * size];
                entries[0] = 1;
                DESKS.holds("product", desk, 2, entries);
            }
        }
    }

    private static void get() {
        CHECK.sentence("3: BAD for r outside 0..3", () -> {
            for (int size = 1; size <= 4; size++) {
                SimilarityDesk desk = DESKS.full(size);
                for (int wrong : Desks.NO_REGISTER) {
                    CHECK.due("get(" + wrong + ", 0)", -1, desk.get(wrong, 0));
                    CHECK.due("get(" + wrong + ", " + wrong + ")", -1, desk.get(wrong, wrong));
                }
            }
        });
        CHECK.sentence("3: BAD for at outside 0..N*N-1", () -> {
            for (int size = 1; size <= 4; size++) {
                SimilarityDesk desk = DESKS.full(size);
                for (int r = 0; r < 4; r++) {
                    for (int wrong : noPlaces(size)) {
                        CHECK.due("get(" + r + ", " + wrong + ")", -1, desk.get(r, wrong));
                    }
                }
            }
        });
        CHECK.sentence("3: an entry, from the first to the last", () -> {
            for (int size = 1; size <= 4; size++) {
                SimilarityDesk desk = DESKS.full(size);
                DESKS.stillFull("get", desk, size, -1);
                DESKS.stillFull("get again", desk, size, -1);
            }
        });
    }

    private static void apply() {
        CHECK.sentence("4: op outside 0..2: refused", () ->
            refused("apply op", new int[] {-1, 3, 4, 5, -2, 1 << 30, LEAST, LEAST + 2, MOST},
                    (desk, wrong) -> desk.apply(wrong, 0, 1, 2)));
        for (int op = 0; op < 3; op++) {
            int each = op;
            CHECK.sentence("4: d outside 0..3: refused, op " + op, () ->
                refused("apply d", Desks.NO_REGISTER,
                        (desk, wrong) -> desk.apply(each, wrong, 1, 2)));
            CHECK.sentence("4: a outside 0..3: refused, op " + op, () ->
                refused("apply a", Desks.NO_REGISTER,
                        (desk, wrong) -> desk.apply(each, 0, wrong, 2)));
            CHECK.sentence("4: b outside 0..3: refused, op " + op, () ->
                refused("apply b", Desks.NO_REGISTER,
                        (desk, wrong) -> desk.apply(each, 0, 1, wrong)));
        }
        CHECK.sentence("4: all numbers outside: refused", () ->
            refused("apply all", new int[] {-1, 4, LEAST, MOST},
                    (desk, wrong) -> desk.apply(wrong, wrong, wrong, wrong)));
        CHECK.sentence("4: all numbers are rests modulo 5", ChangesBoundariesTest::wrapAround);
        CHECK.sentence("4: a sum of N products is a rest modulo 5", () -> {
            int[] rests = {1, 2, 3, 4};
            for (int size = 1; size <= 4; size++) {
                SimilarityDesk desk = DESKS.with(size, Desks.same(size * size, 4));
                CHECK.due("apply", true, desk.apply(SimilarityDesk.MUL, 1, 0, 0));
                DESKS.holds("all entries 4", desk, 1, Desks.same(size * size, rests[size - 1]));
            }
        });
        CHECK.sentence("4: d may be a, b or both, and no other register changes",
                ChangesBoundariesTest::applyOntoEach);
    }

    private static void wrapAround() {
        for (int a = 0; a < 5; a++) {
            for (int b = 0; b < 5; b++) {
                SimilarityDesk desk = DESKS.with(1, a);
                DESKS.fill(desk, 1, b);
                int[] due = {(a + b) % 5, (a + 5 - b) % 5, a * b % 5};
                for (int op = 0; op < 3; op++) {
                    CHECK.due("apply " + op, true, desk.apply(op, 2, 0, 1));
                    DESKS.holds(a + " op " + op + " " + b, desk, 2, due[op]);
                }
            }
        }
    }

    private static void applyOntoEach() {
        for (int size = 1; size <= 4; size++) {
            for (int registers = 0; registers < 64; registers++) {
                int d = registers / 16;
                int a = registers / 4 % 4;
                int b = registers % 4;
                int[][] left = square(Desks.fullEntries(size, a));
                int[][] right = square(Desks.fullEntries(size, b));
                int[][][] due = {Matrices.combine(left, 1, right),
                    Matrices.combine(left, -1, right), Matrices.product(left, right)};
                for (int op = 0; op < 3; op++) {
                    SimilarityDesk desk = DESKS.full(size);
                    String name = "apply(" + op + ", " + d + ", " + a + ", " + b + ")";
                    CHECK.due(name, true, desk.apply(op, d, a, b));
                    DESKS.holds(name, desk, d, line(due[op]));
                    DESKS.stillFull(name, desk, size, d);
                }
            }
        }
    }

    private static int[][] square(int... entries) {
        int size = (int) Math.sqrt(entries.length);
        int[][] result = new int[size][size];
        for (int at = 0; at < entries.length; at++) {
            result[at / size][at % size] = entries[at];
        }
        return result;
    }

    private static int[] line(int[][] matrix) {
        int size = matrix.length;
        int[] result = new int[size * size];
        for (int at = 0; at < result.length; at++) {
            result[at] = matrix[at / size][at % size];
        }
        return result;
    }

    private static void power() {
        CHECK.sentence("5: k below 0: refused", () ->
            refused("power k", new int[] {-1, -2, -5, -MOST_EXPONENT, LEAST + 1, LEAST},
                    (desk, wrong) -> desk.power(0, 1, wrong)));
        CHECK.sentence("5: k above 1000000000: refused", () ->
            refused("power k", new int[] {MOST_EXPONENT + 1, MOST_EXPONENT + 2, 1 << 30, MOST},
                    (desk, wrong) -> desk.power(0, 1, wrong)));
        for (int k : new int[] {0, 1, 2, MOST_EXPONENT}) {
            CHECK.sentence("5: d outside 0..3: refused, k = " + k, () ->
                refused("power d", Desks.NO_REGISTER, (desk, wrong) -> desk.power(wrong, 1, k)));
            CHECK.sentence("5: a outside 0..3: refused, k = " + k, () ->
                refused("power a", Desks.NO_REGISTER, (desk, wrong) -> desk.power(0, wrong, k)));
        }
        CHECK.sentence("5: k = 0: A^0 is I, whatever A is", () -> {
            for (int size = 1; size <= 4; size++) {
                int[] one = Desks.scalar(size, 1);
                becomes(size, 0, new int[size * size], one);
                becomes(size, 0, Desks.steps(size, 0), one);
                becomes(size, 0, Desks.same(size * size, 4), one);
                becomes(size, 0, one, one);
            }
        });
        CHECK.sentence("5: k = 1: A itself", () -> {
            for (int size = 1; size <= 4; size++) {
                for (int r = 0; r < 4; r++) {
                    becomes(size, 1, Desks.fullEntries(size, r), Desks.fullEntries(size, r));
                }
            }
        });
        CHECK.sentence("5: k = 1000000000, and right below it",
                ChangesBoundariesTest::greatestExponents);
        CHECK.sentence("5: each binary place of k counts", ChangesBoundariesTest::eachBit);
        CHECK.sentence("5: d may be a, and no other register changes", () -> {
            for (int size = 1; size <= 4; size++) {
                for (int k : new int[] {0, 1, 2, 3, 6}) {
                    powerOntoEach(size, k);
                }
            }
        });
    }

    private static void becomes(int size, int k, int[] matrix, int[] due) {
        SimilarityDesk desk = DESKS.with(size, matrix);
        CHECK.due("power(1, 0, " + k + ")", true, desk.power(1, 0, k));
        DESKS.holds("power " + k, desk, 1, due);
        DESKS.holds("power " + k + " leaves", desk, 0, matrix);
    }

    private static void greatestExponents() {
        int[] powersOfTwo = {1, 3, 4, 2};
        for (int below = 0; below < 4; below++) {
            becomes(1, MOST_EXPONENT - below, new int[] {2}, new int[] {powersOfTwo[below]});
        }
        becomes(2, MOST_EXPONENT, Desks.steps(2, 1), Desks.scalar(2, 1));
        becomes(2, MOST_EXPONENT - 1, Desks.steps(2, 1), new int[] {1, 4, 0, 1});
        becomes(4, MOST_EXPONENT, Desks.steps(4, 0), new int[16]);
        // This one's order is 624, and 1000000000 leaves 64 by it: six squarings.
        int[] matrix = Desks.companion(3, 1, 1, 0);
        int[][] due = square(matrix);
        for (int i = 0; i < 6; i++) {
            due = Matrices.product(due, due);
        }
        becomes(4, MOST_EXPONENT, matrix, line(due));
        becomes(4, 64, matrix, line(due));
    }

    private static void eachBit() {
        int[] matrix = Desks.companion(3, 1, 1, 0);
        int[][] due = square(matrix);
        for (int bit = 0; bit < 30; bit++) {
            becomes(4, 1 << bit, matrix, line(due));
            becomes(4, (1 << bit) + 1, matrix, line(Matrices.product(due, square(matrix))));
            due = Matrices.product(due, due);
        }
    }

    private static void powerOntoEach(int size, int k) {
        for (int d = 0; d < 4; d++) {
            for (int a = 0; a < 4; a++) {
                int[][] due = Matrices.scalar(size, 1);
                for (int i = 0; i < k; i++) {
                    due = Matrices.product(due, square(Desks.fullEntries(size, a)));
                }
                SimilarityDesk desk = DESKS.full(size);
                String name = "power(" + d + ", " + a + ", " + k + ")";
                CHECK.due(name, true, desk.power(d, a, k));
                DESKS.holds(name, desk, d, line(due));
                DESKS.stillFull(name, desk, size, d);
            }
        }
    }

    private static void valueAt() {
        CHECK.sentence("6: polynomial below 0: refused", () ->
            refused("valueAt polynomial", new int[] {-1, -2, -5, -3124, LEAST, LEAST + 1},
                    (desk, wrong) -> desk.valueAt(0, 1, wrong)));
        CHECK.sentence("6: polynomial above 3124: refused", () ->
            refused("valueAt polynomial", new int[] {3125, 3126, 3130, 6250, 15625, 1 << 30, MOST},
                    (desk, wrong) -> desk.valueAt(0, 1, wrong)));
        for (int polynomial : new int[] {0, 5, 3124}) {
            CHECK.sentence("6: d outside 0..3: refused, polynomial " + polynomial, () ->
                refused("valueAt d", Desks.NO_REGISTER,
                        (desk, wrong) -> desk.valueAt(wrong, 1, polynomial)));
            CHECK.sentence("6: a outside 0..3: refused, polynomial " + polynomial, () ->
                refused("valueAt a", Desks.NO_REGISTER,
                        (desk, wrong) -> desk.valueAt(0, wrong, polynomial)));
        }
        CHECK.sentence("6: the polynomial 0 has the value 0, a number c the value c I", () -> {
            for (int size = 1; size <= 4; size++) {
                for (int c = 0; c < 5; c++) {
                    isValue(size, c, Desks.fullEntries(size, 2), Desks.scalar(size, c));
                    isValue(size, c, new int[size * size], Desks.scalar(size, c));
                }
            }
        });
        CHECK.sentence("6: 3124 is the greatest: 4 + 4 x + 4 x^2 + 4 x^3 + 4 x^4", () -> {
            isValue(4, 3124, new int[16], Desks.scalar(4, 4));
            isValue(4, 3124, Desks.scalar(4, 1), new int[16]);
            isValue(4, 3124, Desks.scalar(4, 2), Desks.scalar(4, 4));
            isValue(4, 3124, Desks.steps(4, 0),
                    new int[] {4, 4, 4, 4, 0, 4, 4, 4, 0, 0, 4, 4, 0, 0, 0, 4});
        });
        CHECK.sentence("6: each power of x, up to x^4", () -> {
            int[] matrix = Desks.companion(3, 1, 1, 0);
            int[][] due = Matrices.scalar(4, 1);
            for (int polynomial = 1; polynomial < 3125; polynomial *= 5) {
                isValue(4, polynomial, matrix, line(due));
                due = Matrices.product(due, square(matrix));
            }
        });
        CHECK.sentence("6: every polynomial, at the matrices of one row",
                ChangesBoundariesTest::everyPolynomial);
        CHECK.sentence("6: d may be a, and no other register changes",
                ChangesBoundariesTest::valueOntoEach);
    }

    private static void isValue(int size, int polynomial, int[] matrix, int[] due) {
        SimilarityDesk desk = DESKS.with(size, matrix);
        CHECK.due("valueAt(1, 0, " + polynomial + ")", true, desk.valueAt(1, 0, polynomial));
        DESKS.holds("value of " + polynomial, desk, 1, due);
        DESKS.holds("value of " + polynomial + " leaves", desk, 0, matrix);
    }

    private static void everyPolynomial() {
        for (int polynomial = 0; polynomial < 3125; polynomial++) {
            for (int x = 0; x < 5; x++) {
                int value = 0;
                int power = 1;
                for (int rest = polynomial; rest > 0; rest /= 5) {
                    value += rest % 5 * power;
                    power *= x;
                }
                isValue(1, polynomial, new int[] {x}, new int[] {value % 5});
            }
        }
    }

    /** 34 is 4 + x + x^2. */
    private static void valueOntoEach() {
        for (int size = 1; size <= 4; size++) {
            for (int d = 0; d < 4; d++) {
                for (int a = 0; a < 4; a++) {
                    int[][] matrix = square(Desks.fullEntries(size, a));
                    int[][] due = Matrices.combine(matrix, 4, Matrices.scalar(size, 1));
                    due = Matrices.combine(due, 1, Matrices.product(matrix, matrix));
                    SimilarityDesk desk = DESKS.full(size);
                    String name = "valueAt(" + d + ", " + a + ", 34)";
                    CHECK.due(name, true, desk.valueAt(d, a, 34));
                    DESKS.holds(name, desk, d, line(due));
                    DESKS.stillFull(name, desk, size, d);
                }
            }
        }
    }

    private static void invert() {
        CHECK.sentence("7: d outside 0..3: refused", () -> {
            for (int wrong : Desks.NO_REGISTER) {
                SimilarityDesk desk = DESKS.with(3, Desks.steps(3, 2));
                CHECK.due("invert(" + wrong + ", 0)", false, desk.invert(wrong, 0));
                CHECK.due("invert(" + wrong + ", 1)", false, desk.invert(wrong, 1));
                DESKS.holds("refused invert", desk, 0, Desks.steps(3, 2));
                DESKS.holds("refused invert", desk, 1, new int[9]);
                DESKS.holds("refused invert", desk, 2, new int[9]);
                DESKS.holds("refused invert", desk, 3, new int[9]);
            }
        });
        CHECK.sentence("7: a outside 0..3: refused", () ->
            refused("invert a", Desks.NO_REGISTER, (desk, wrong) -> desk.invert(0, wrong)));
        CHECK.sentence("7: a has none: refused, and register d stays",
                ChangesBoundariesTest::hasNoInverse);
        CHECK.sentence("7: of one row, only 0 has none", () -> {
            int[] inverses = {0, 1, 3, 2, 4};
            for (int value = 0; value < 5; value++) {
                SimilarityDesk desk = DESKS.with(1, value);
                CHECK.due("invert " + value, value != 0, desk.invert(0, 0));
                DESKS.holds("invert " + value, desk, 0, inverses[value]);
            }
        });
        CHECK.sentence("7: the inverse of I is I, that of 4 I is 4 I", () -> {
            for (int size = 1; size <= 4; size++) {
                for (int value : new int[] {1, 4}) {
                    SimilarityDesk desk = DESKS.with(size, Desks.scalar(size, value));
                    CHECK.due("invert(3, 0)", true, desk.invert(3, 0));
                    DESKS.holds("inverse", desk, 3, Desks.scalar(size, value));
                }
            }
        });
        CHECK.sentence("7: d may be a, and no other register changes",
                ChangesBoundariesTest::inverseOntoEach);
    }

    private static void hasNoInverse() {
        for (int size = 1; size <= 4; size++) {
            int[] lacking = Desks.scalar(size, 1);
            lacking[size * size - 1] = 0;
            int[][] matrices = {new int[size * size], Desks.steps(size, 0), lacking,
                Desks.same(size * size, size == 1 ? 0 : 3)};
            for (int[] matrix : matrices) {
                for (int a = 0; a < 4; a++) {
                    SimilarityDesk desk = DESKS.full(size);
                    DESKS.fill(desk, a, matrix);
                    for (int d = 0; d < 4; d++) {
                        CHECK.due("invert(" + d + ", " + a + ")", false, desk.invert(d, a));
                    }
                    DESKS.holds("refused invert", desk, a, matrix);
                    DESKS.stillFull("refused invert", desk, size, a);
                }
            }
        }
    }

    /** The inverse of 2 + s, s^4 being 0, is 3 - 4 s + 2 s^2 - s^3: 3, 1, 2, 4 from the left. */
    private static void inverseOntoEach() {
        int[] coefficients = {3, 1, 2, 4};
        for (int size = 1; size <= 4; size++) {
            int[] due = new int[size * size];
            for (int at = 0; at < due.length; at++) {
                int above = at % size - at / size;
                due[at] = above < 0 ? 0 : coefficients[above];
            }
            for (int d = 0; d < 4; d++) {
                for (int a = 0; a < 4; a++) {
                    SimilarityDesk desk = new SimilarityDesk(size);
                    DESKS.fill(desk, a, Desks.steps(size, 2));
                    CHECK.due("invert(" + d + ", " + a + ")", true, desk.invert(d, a));
                    for (int r = 0; r < 4; r++) {
                        DESKS.holds("invert(" + d + ", " + a + ")", desk, r,
                                r == d ? due : r == a ? Desks.steps(size, 2)
                                : new int[size * size]);
                    }
                }
            }
        }
    }

    private static void normal() {
        CHECK.sentence("8: d outside 0..3: refused", () ->
            refused("normal d", Desks.NO_REGISTER, (desk, wrong) -> desk.normal(wrong, 0)));
        CHECK.sentence("8: a outside 0..3: refused", () ->
            refused("normal a", Desks.NO_REGISTER, (desk, wrong) -> desk.normal(0, wrong)));
        CHECK.sentence("8: N invariant factors: N companions of one row", () -> {
            for (int size = 1; size <= 4; size++) {
                for (int value = 0; value < 5; value++) {
                    isNormal(size, Desks.scalar(size, value), Desks.scalar(size, value));
                }
            }
        });
        CHECK.sentence("8: one invariant factor: one companion of N rows", () -> {
            int[][] lastColumns = {{1}, {4, 2}, {1, 2, 3}, {4, 4, 4, 4}};
            for (int size = 1; size <= 4; size++) {
                int[] due = Desks.companion(lastColumns[size - 1]);
                isNormal(size, Desks.steps(size, 1), due);
                isNormal(size, due, due);
                isNormal(size, Desks.steps(size, 0), Desks.companion(new int[size]));
            }
        });
        CHECK.sentence("8: companions of one and of more rows, the smaller ones first", () -> {
            isNormal(3, new int[] {2, 1, 0, 0, 2, 0, 0, 0, 2},
                    new int[] {2, 0, 0, 0, 0, 1, 0, 1, 4});
            isNormal(4, new int[] {0, 1, 0, 0, 0, 0, 1, 0, 0, 0, 0, 0, 0, 0, 0, 0},
                    new int[] {0, 0, 0, 0, 0, 0, 0, 0, 0, 1, 0, 0, 0, 0, 1, 0});
            isNormal(4, new int[] {3, 0, 0, 0, 0, 3, 0, 0, 0, 0, 3, 0, 0, 0, 0, 1},
                    new int[] {3, 0, 0, 0, 0, 3, 0, 0, 0, 0, 0, 2, 0, 0, 1, 4});
            isNormal(4, new int[] {1, 0, 0, 0, 0, 0, 0, 0, 0, 0, 1, 0, 0, 0, 0, 0},
                    new int[] {0, 0, 0, 0, 1, 1, 0, 0, 0, 0, 0, 0, 0, 0, 1, 1});
        });
    }

    /** Register d held something else before: nothing of that is left. */
    private static void isNormal(int size, int[] matrix, int[] due) {
        for (int a = 0; a < 4; a++) {
            for (int d = 0; d < 4; d++) {
                SimilarityDesk desk = DESKS.full(size);
                DESKS.fill(desk, a, matrix);
                String name = "normal(" + d + ", " + a + ")";
                CHECK.due(name, true, desk.normal(d, a));
                DESKS.holds(name, desk, d, due);
                if (a != d) {
                    DESKS.holds(name + " leaves", desk, a, matrix);
                }
                for (int r = 0; r < 4; r++) {
                    if (r != a && r != d) {
                        DESKS.holds(name + " leaves", desk, r, Desks.fullEntries(size, r));
                    }
                }
            }
        }
    }
}
