/**
 * The boundary cases of the calls that only answer (promises 9 to 17). Each sentence of the
 * document that names one has a test of its own here.
 */
public final class AnswersBoundariesTest {
    private static final Check CHECK = new Check("AnswersBoundariesTest");
    private static final Desks DESKS = new Desks(CHECK);
    private static final int LEAST = Desks.LEAST;
    private static final int MOST = Desks.MOST;

    // Companions whose powers run through all that is not 0 of the field with 5^N numbers.
    private static final int[][] LONGEST = {{2}, {3, 1}, {2, 2, 0}, {3, 1, 1, 0}};

    private interface Question {
        int on(SimilarityDesk desk, int number);
    }

    private AnswersBoundariesTest() {
    }

    public static void main(String[] args) {
        determinant();
        characteristic();
        minimal();
        invariant();
        similar();
        order();
        eigen();
        diagonal();
        commutant();
        CHECK.sentence("9 to 17: a call that only answers changes no register",
                AnswersBoundariesTest::nothingChanges);
        CHECK.end();
    }

    /** With each wrong number, on empty and on full desks of each size. */
    private static void answers(int due, String name, int[] wrongs, Question question) {
        for (int size = 1; size <= 4; size++) {
            SimilarityDesk empty = new SimilarityDesk(size);
            SimilarityDesk full = DESKS.full(size);
            for (int wrong : wrongs) {
                CHECK.due(name + " of " + wrong, due, question.on(empty, wrong));
                CHECK.due(name + " of " + wrong, due, question.on(full, wrong));
            }
            DESKS.stillFull(name, full, size, -1);
        }
    }

    /** The answers for registers 0 to 3, which hold 1 2 / 3 4, 2 I, 1 1 / 0 1 and 0 0 / 0 4. */
    private static void registers(String name, Question question, int... due) {
        SimilarityDesk desk = DESKS.with(2, 1, 2, 3, 4);
        DESKS.fill(desk, 1, 2, 0, 0, 2);
        DESKS.fill(desk, 2, 1, 1, 0, 1);
        DESKS.fill(desk, 3, 0, 0, 0, 4);
        for (int r = 0; r < 4; r++) {
            CHECK.due(name + " of register " + r, due[r], question.on(desk, r));
        }
    }

    private static int one(boolean answer) {
        return answer ? 1 : 0;
    }

    private static int power(int base, int exponent) {
        int result = 1;
        for (int i = 0; i < exponent; i++) {
            result *= base;
        }
        return result;
    }

    private static void determinant() {
        CHECK.sentence("9: BAD for r outside 0..3", () ->
            answers(-1, "determinant", Desks.NO_REGISTER, SimilarityDesk::determinant));
        CHECK.sentence("9: r in 0..3", () ->
            registers("determinant", SimilarityDesk::determinant, 3, 4, 1, 0));
        CHECK.sentence("9: of one row it is the entry", () -> {
            for (int value = 0; value < 5; value++) {
                CHECK.due("determinant", value, DESKS.with(1, value).determinant(0));
            }
        });
        CHECK.sentence("9: it is a rest modulo 5, of each number of rows", () -> {
            for (int size = 1; size <= 4; size++) {
                for (int value = 0; value < 5; value++) {
                    int[] column = new int[size];
                    column[0] = value;
                    int wheel = size % 2 == 1 ? value : (5 - value) % 5;
                    CHECK.due("determinant of c I", power(value, size) % 5,
                            DESKS.with(size, Desks.scalar(size, value)).determinant(0));
                    CHECK.due("determinant of a wheel", wheel,
                            DESKS.with(size, Desks.companion(column)).determinant(0));
                }
            }
        });
        CHECK.sentence("9: it is 0 for one without inverse", () -> {
            for (int size = 1; size <= 4; size++) {
                CHECK.due("determinant of 0", 0, new SimilarityDesk(size).determinant(3));
                CHECK.due("determinant of steps", 0,
                        DESKS.with(size, Desks.steps(size, 0)).determinant(0));
            }
        });
    }

    private static void characteristic() {
        CHECK.sentence("10: BAD for r outside 0..3", () ->
            answers(-1, "characteristic", Desks.NO_REGISTER, SimilarityDesk::characteristic));
        CHECK.sentence("10: r in 0..3", () ->
            registers("characteristic", SimilarityDesk::characteristic, 28, 34, 41, 30));
        CHECK.sentence("10: that of 0 is x^N", () -> {
            for (int size = 1; size <= 4; size++) {
                CHECK.due("characteristic", power(5, size),
                        new SimilarityDesk(size).characteristic(3));
            }
        });
        CHECK.sentence("10: every coefficient is a rest modulo 5, from 0 to 4", () -> {
            for (int size = 1; size <= 4; size++) {
                for (int value = 0; value < 5; value++) {
                    int coefficient = (5 - value) % 5;
                    int due = power(5, size) + coefficient * (power(5, size) - 1) / 4;
                    int[] matrix = Desks.companion(Desks.same(size, value));
                    CHECK.due("characteristic", due, DESKS.with(size, matrix).characteristic(0));
                }
            }
        });
    }

    private static void minimal() {
        CHECK.sentence("11: BAD for r outside 0..3", () ->
            answers(-1, "minimal", Desks.NO_REGISTER, SimilarityDesk::minimal));
        CHECK.sentence("11: r in 0..3", () ->
            registers("minimal", SimilarityDesk::minimal, 28, 8, 41, 30));
        CHECK.sentence("11: the smallest degree is 1: that of c I is x - c", () -> {
            int[] due = {5, 9, 8, 7, 6};
            for (int size = 1; size <= 4; size++) {
                for (int value = 0; value < 5; value++) {
                    CHECK.due("minimal", due[value],
                            DESKS.with(size, Desks.scalar(size, value)).minimal(0));
                }
            }
        });
        CHECK.sentence("11: the greatest degree is N: that of a companion", () -> {
            int[] longest = {8, 47, 143, 747};
            for (int size = 1; size <= 4; size++) {
                CHECK.due("minimal", power(5, size),
                        DESKS.with(size, Desks.steps(size, 0)).minimal(0));
                CHECK.due("minimal", longest[size - 1],
                        DESKS.with(size, Desks.companion(LONGEST[size - 1])).minimal(0));
            }
        });
        CHECK.sentence("11: each degree between", () -> {
            CHECK.due("minimal x^2", 25, DESKS.with(4, 0, 1).minimal(0));
            CHECK.due("minimal x^3", 125, DESKS.with(4, 0, 1, 0, 0, 0, 0, 1).minimal(0));
            CHECK.due("minimal (x - 1)(x - 4)", 29,
                    DESKS.with(4, 1, 0, 0, 0, 0, 4, 0, 0, 0, 0, 1, 0, 0, 0, 0, 4).minimal(0));
        });
    }

    private static void invariant() {
        CHECK.sentence("12: r outside 0..3: BAD", () ->
            answers(-1, "invariant", Desks.NO_REGISTER, (desk, wrong) -> desk.invariant(wrong, 0)));
        CHECK.sentence("12: r outside 0..3: BAD, even if there is no factor k", () -> {
            for (int k : new int[] {-1, 1, 4, 5, LEAST, MOST}) {
                answers(-1, "invariant " + k, Desks.NO_REGISTER,
                        (desk, wrong) -> desk.invariant(wrong, k));
            }
        });
        CHECK.sentence("12: r in 0..3", () -> {
            registers("invariant 0", (desk, r) -> desk.invariant(r, 0), 28, 8, 41, 30);
            registers("invariant 1", (desk, r) -> desk.invariant(r, 1), -2, 8, -2, -2);
            registers("invariant 2", (desk, r) -> desk.invariant(r, 2), -2, -2, -2, -2);
        });
        CHECK.sentence("12: k below 0: there is none: NONE", () -> {
            for (int r = 0; r < 4; r++) {
                int each = r;
                answers(-2, "invariant k", new int[] {-1, -2, -4, -5, LEAST, LEAST + 1},
                        (desk, wrong) -> desk.invariant(each, wrong));
            }
        });
        CHECK.sentence("12: k of N or more: there is none: NONE", () -> {
            for (int size = 1; size <= 4; size++) {
                SimilarityDesk desk = DESKS.full(size);
                for (int k : new int[] {size, size + 1, 4, 5, 8, 1 << 30, MOST - 1, MOST}) {
                    for (int r = 0; r < 4; r++) {
                        CHECK.due("invariant(" + r + ", " + k + ")", -2, desk.invariant(r, k));
                    }
                }
            }
        });
        CHECK.sentence("12: N factors, the most there are", () -> {
            int[] due = {5, 9, 8, 7, 6};
            for (int size = 1; size <= 4; size++) {
                for (int value = 0; value < 5; value++) {
                    int[] matrix = Desks.scalar(size, value);
                    factors(size, matrix, Desks.same(size, due[value]));
                }
            }
        });
        CHECK.sentence("12: one factor, the fewest there are", () -> {
            for (int size = 1; size <= 4; size++) {
                factors(size, Desks.steps(size, 0), power(5, size));
            }
            factors(2, new int[] {3, 0, 0, 4}, 25 + 3 * 5 + 2);
            factors(4, Desks.companion(LONGEST[3]), 747);
        });
        CHECK.sentence("12: right behind the last factor there is none", () -> {
            factors(3, new int[] {0, 0, 1, 0, 0, 0, 0, 0, 0}, 5, 25);
            factors(4, Desks.companion(0, 0, 0, 0), 625);
            factors(4, new int[] {0, 1, 0, 0, 0, 0, 0, 0, 0, 0, 0, 0, 0, 0, 0, 0}, 5, 5, 25);
            factors(4, new int[] {0, 1, 0, 0, 0, 0, 1, 0, 0, 0, 0, 0, 0, 0, 0, 0}, 5, 125);
            factors(4, new int[] {0, 1, 0, 0, 0, 0, 0, 0, 0, 0, 0, 1, 0, 0, 0, 0}, 25, 25);
            factors(4, new int[] {0, 3, 0, 0, 1, 0, 0, 0, 0, 0, 0, 3, 0, 0, 1, 0}, 27, 27);
        });
    }

    private static void factors(int size, int[] matrix, int... due) {
        SimilarityDesk desk = DESKS.with(size, matrix);
        for (int k = 0; k < due.length; k++) {
            CHECK.due("invariant(0, " + k + ")", due[k], desk.invariant(0, k));
        }
        for (int k = due.length; k <= 5; k++) {
            CHECK.due("invariant(0, " + k + ")", -2, desk.invariant(0, k));
        }
        CHECK.due("invariant(0, -1)", -2, desk.invariant(0, -1));
    }

    private static void similar() {
        CHECK.sentence("13: false for a outside 0..3", () -> {
            for (int r = 0; r < 4; r++) {
                int b = r;
                answers(0, "similar a", Desks.NO_REGISTER,
                        (desk, wrong) -> one(desk.similar(wrong, b)));
            }
        });
        CHECK.sentence("13: false for b outside 0..3", () -> {
            for (int r = 0; r < 4; r++) {
                int a = r;
                answers(0, "similar b", Desks.NO_REGISTER,
                        (desk, wrong) -> one(desk.similar(a, wrong)));
            }
        });
        CHECK.sentence("13: false for both outside 0..3, even if they are the same", () ->
            answers(0, "similar", Desks.NO_REGISTER,
                    (desk, wrong) -> one(desk.similar(wrong, wrong))));
        CHECK.sentence("13: a and b in 0..3, each similar to itself", () -> {
            for (int r = 0; r < 4; r++) {
                int[] due = new int[4];
                due[r] = 1;
                int other = r;
                registers("similar", (desk, a) -> one(desk.similar(a, other)), due);
                registers("similar", (desk, b) -> one(desk.similar(other, b)), due);
            }
        });
        CHECK.sentence("13: all registers of a new object are similar", () -> {
            for (int size = 1; size <= 4; size++) {
                SimilarityDesk desk = new SimilarityDesk(size);
                for (int registers = 0; registers < 16; registers++) {
                    CHECK.due("similar", true, desk.similar(registers / 4, registers % 4));
                }
            }
        });
        CHECK.sentence("13: of one row, only equal ones are similar", () -> {
            for (int a = 0; a < 5; a++) {
                for (int b = 0; b < 5; b++) {
                    SimilarityDesk desk = DESKS.with(1, a);
                    DESKS.fill(desk, 3, b);
                    CHECK.due(a + " similar to " + b, a == b, desk.similar(0, 3));
                }
            }
        });
        CHECK.sentence("13: c I is similar to itself alone", () -> {
            for (int size = 2; size <= 4; size++) {
                for (int value = 0; value < 5; value++) {
                    SimilarityDesk desk = DESKS.with(size, Desks.scalar(size, value));
                    DESKS.fill(desk, 1, Desks.steps(size, value));
                    DESKS.fill(desk, 2, Desks.scalar(size, (value + 1) % 5));
                    DESKS.fill(desk, 3, Desks.scalar(size, value));
                    CHECK.due("c I, and steps beside it", false, desk.similar(0, 1));
                    CHECK.due("steps beside it, and c I", false, desk.similar(1, 0));
                    CHECK.due("c I, (c + 1) I", false, desk.similar(0, 2));
                    CHECK.due("c I, c I", true, desk.similar(0, 3));
                }
            }
        });
    }

    private static void order() {
        CHECK.sentence("14: BAD for r outside 0..3", () ->
            answers(-1, "order", Desks.NO_REGISTER, SimilarityDesk::order));
        CHECK.sentence("14: r in 0..3", () ->
            registers("order", SimilarityDesk::order, 8, 4, 5, 0));
        CHECK.sentence("14: the smallest k is above 0: that of I is 1", () -> {
            for (int size = 1; size <= 4; size++) {
                CHECK.due("order of I", 1, DESKS.with(size, Desks.scalar(size, 1)).order(0));
            }
        });
        CHECK.sentence("14: 0 if there is none", () -> {
            for (int size = 1; size <= 4; size++) {
                int[] lacking = Desks.scalar(size, 1);
                lacking[0] = 0;
                CHECK.due("order of 0", 0, new SimilarityDesk(size).order(3));
                CHECK.due("order of steps", 0, DESKS.with(size, Desks.steps(size, 0)).order(0));
                CHECK.due("order of I but for one 1", 0, DESKS.with(size, lacking).order(0));
            }
        });
        CHECK.sentence("14: the smallest k, up to 5^N - 1", () -> {
            for (int size = 1; size <= 4; size++) {
                CHECK.due("the greatest order", power(5, size) - 1,
                        DESKS.with(size, Desks.companion(LONGEST[size - 1])).order(0));
            }
        });
        CHECK.sentence("14: no k of which the smallest is a part", () -> {
            int[] orders = {1, 4, 4, 2};
            for (int size = 1; size <= 4; size++) {
                for (int value = 1; value < 5; value++) {
                    int due = orders[value - 1];
                    CHECK.due("order of c I", due,
                            DESKS.with(size, Desks.scalar(size, value)).order(0));
                    CHECK.due("order of c I and steps", size == 1 ? due : 5 * due,
                            DESKS.with(size, Desks.steps(size, value)).order(0));
                }
            }
        });
    }

    private static void eigen() {
        CHECK.sentence("15: r outside 0..3: BAD", () -> {
            for (int w = 0; w < 5; w++) {
                int each = w;
                answers(-1, "eigen r", Desks.NO_REGISTER,
                        (desk, wrong) -> desk.eigen(wrong, each));
            }
        });
        CHECK.sentence("15: w outside 0..4: BAD", () -> {
            for (int r = 0; r < 4; r++) {
                int each = r;
                answers(-1, "eigen w", new int[] {-1, 5, 6, 9, 10, -4, -5, 1 << 30, LEAST, MOST},
                        (desk, wrong) -> desk.eigen(each, wrong));
            }
        });
        CHECK.sentence("15: r and w outside: BAD", () ->
            answers(-1, "eigen", new int[] {-1, 5, 1 << 28, LEAST, MOST},
                    (desk, wrong) -> desk.eigen(wrong, wrong)));
        CHECK.sentence("15: r in 0..3 and w in 0..4", () -> {
            int[][] due = {{0, 0, 0, 1}, {0, 0, 1, 0}, {0, 2, 0, 0}, {0, 0, 0, 0}, {0, 0, 0, 1}};
            for (int w = 0; w < 5; w++) {
                int each = w;
                registers("eigen " + w, (desk, r) -> desk.eigen(r, each), due[w]);
            }
        });
        CHECK.sentence("15: the largest list has N vectors for c I and c, none for others", () -> {
            for (int size = 1; size <= 4; size++) {
                for (int value = 0; value < 5; value++) {
                    SimilarityDesk desk = DESKS.with(size, Desks.scalar(size, value));
                    for (int w = 0; w < 5; w++) {
                        CHECK.due("eigen " + w, w == value ? size : 0, desk.eigen(0, w));
                    }
                }
            }
        });
        CHECK.sentence("15: none of the list is a sum of multiples of the others", () -> {
            for (int size = 1; size <= 4; size++) {
                for (int value = 0; value < 5; value++) {
                    SimilarityDesk desk = DESKS.with(size, Desks.steps(size, value));
                    for (int w = 0; w < 5; w++) {
                        CHECK.due("eigen " + w, w == value ? 1 : 0, desk.eigen(0, w));
                    }
                }
            }
        });
        CHECK.sentence("15: the empty list: no number stretches a vector", () -> {
            for (int size = 2; size <= 4; size++) {
                SimilarityDesk desk = DESKS.with(size, Desks.companion(LONGEST[size - 1]));
                for (int w = 0; w < 5; w++) {
                    CHECK.due("eigen " + w, 0, desk.eigen(0, w));
                }
            }
        });
    }

    private static void diagonal() {
        CHECK.sentence("16: false for r outside 0..3", () ->
            answers(0, "diagonal", Desks.NO_REGISTER,
                    (desk, wrong) -> one(desk.diagonal(wrong))));
        CHECK.sentence("16: r in 0..3", () ->
            registers("diagonal", (desk, r) -> one(desk.diagonal(r)), 0, 1, 0, 1));
        CHECK.sentence("16: true for one that is 0 off the diagonal itself", () -> {
            for (int size = 1; size <= 4; size++) {
                for (int value = 0; value < 5; value++) {
                    int[] matrix = Desks.scalar(size, value);
                    CHECK.due("c I", true, DESKS.with(size, matrix).diagonal(0));
                    matrix[size * size - 1] = 4 - value;
                    CHECK.due("not c I", true, DESKS.with(size, matrix).diagonal(0));
                }
            }
        });
        CHECK.sentence("16: of one row, every one is", () -> {
            for (int value = 0; value < 5; value++) {
                CHECK.due("one row", true, DESKS.with(1, value).diagonal(0));
            }
        });
        CHECK.sentence("16: false where a number stretches too few vectors", () -> {
            for (int size = 2; size <= 4; size++) {
                for (int value = 0; value < 5; value++) {
                    CHECK.due("steps", false,
                            DESKS.with(size, Desks.steps(size, value)).diagonal(0));
                    int[] matrix = Desks.scalar(size, value);
                    matrix[1] = 1;
                    CHECK.due("one step", false, DESKS.with(size, matrix).diagonal(0));
                }
            }
        });
        CHECK.sentence("16: false where no number stretches any", () -> {
            for (int size = 2; size <= 4; size++) {
                CHECK.due("no root", false,
                        DESKS.with(size, Desks.companion(LONGEST[size - 1])).diagonal(0));
            }
        });
    }

    private static void commutant() {
        CHECK.sentence("17: BAD for r outside 0..3", () ->
            answers(-1, "commutant", Desks.NO_REGISTER, SimilarityDesk::commutant));
        CHECK.sentence("17: r in 0..3", () ->
            registers("commutant", SimilarityDesk::commutant, 2, 4, 2, 2));
        CHECK.sentence("17: N * N, the most there is: all commute with c I", () -> {
            for (int size = 1; size <= 4; size++) {
                for (int value = 0; value < 5; value++) {
                    CHECK.due("commutant", size * size,
                            DESKS.with(size, Desks.scalar(size, value)).commutant(0));
                }
            }
        });
        CHECK.sentence("17: N, the least there is: that of one companion", () -> {
            for (int size = 1; size <= 4; size++) {
                CHECK.due("commutant", size,
                        DESKS.with(size, Desks.companion(LONGEST[size - 1])).commutant(0));
                CHECK.due("commutant", size,
                        DESKS.with(size, Desks.steps(size, 3)).commutant(0));
            }
        });
    }

    private static void nothingChanges() {
        for (int size = 1; size <= 4; size++) {
            for (int r = 0; r < 4; r++) {
                SimilarityDesk desk = DESKS.full(size);
                desk.determinant(r);
                desk.characteristic(r);
                desk.minimal(r);
                desk.order(r);
                desk.diagonal(r);
                desk.commutant(r);
                for (int number = -1; number < 6; number++) {
                    desk.invariant(r, number);
                    desk.similar(r, number);
                    desk.eigen(r, number);
                }
                DESKS.stillFull("questions", desk, size, -1);
            }
        }
    }
}
