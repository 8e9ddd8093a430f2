/** Each promise by itself, with answers worked out by hand: plain uses, edges and wrong numbers. */
public final class PromisesTest {
    private static final Check CHECK = new Check("PromisesTest");
    private static final Desks DESKS = new Desks(CHECK);
    private static final int LEAST = Desks.LEAST;
    private static final int MOST = Desks.MOST;
    private static final int[] NO_REGISTER = {-1, 4, LEAST, MOST};

    private PromisesTest() {
    }

    public static void main(String[] args) {
        newObject();
        set();
        get();
        apply();
        power();
        valueAt();
        invert();
        normal();
        determinant();
        characteristic();
        minimal();
        invariant();
        similar();
        order();
        eigen();
        diagonal();
        commutant();
        CHECK.end();
    }

    private static SimilarityDesk desk(int size, int... entries) {
        return DESKS.with(size, entries);
    }

    private static void fill(SimilarityDesk desk, int r, int... entries) {
        DESKS.fill(desk, r, entries);
    }

    private static void holds(String after, SimilarityDesk desk, int r, int... entries) {
        DESKS.holds(after, desk, r, entries);
    }

    private static void newObject() {
        int[] sizes = {1, 2, 3, 4, 0, -1, LEAST, 5, 100, MOST};
        int[] rows = {1, 2, 3, 4, 1, 1, 1, 4, 4, 4};
        for (int i = 0; i < sizes.length; i++) {
            SimilarityDesk desk = new SimilarityDesk(sizes[i]);
            for (int r = 0; r < 4; r++) {
                holds("new(" + sizes[i] + ")", desk, r, new int[rows[i] * rows[i]]);
            }
        }
        SimilarityDesk one = desk(2, 1, 2, 3, 4);
        SimilarityDesk other = new SimilarityDesk(2);
        holds("another object", other, 0, 0, 0, 0, 0);
        holds("the first object", one, 0, 1, 2, 3, 4);
        CHECK.due("BAD", -1, SimilarityDesk.BAD);
        CHECK.due("NONE", -2, SimilarityDesk.NONE);
        CHECK.due("ADD", 0, SimilarityDesk.ADD);
        CHECK.due("SUB", 1, SimilarityDesk.SUB);
        CHECK.due("MUL", 2, SimilarityDesk.MUL);
    }

    private static void set() {
        SimilarityDesk desk = desk(3, 0, 1, 2, 3, 4, 0, 1, 2, 3);
        fill(desk, 3, 4, 4, 4, 3, 3, 3, 2, 2, 2);
        for (int wrong : NO_REGISTER) {
            CHECK.due("set(" + wrong + ", 0, 1)", false, desk.set(wrong, 0, 1));
        }
        for (int wrong : new int[] {-1, 9, 10, 16, LEAST, MOST}) {
            CHECK.due("set(0, " + wrong + ", 1)", false, desk.set(0, wrong, 1));
        }
        for (int wrong : new int[] {-1, 5, LEAST, MOST}) {
            CHECK.due("set(0, 0, " + wrong + ")", false, desk.set(0, 0, wrong));
        }
        holds("set", desk, 0, 0, 1, 2, 3, 4, 0, 1, 2, 3);
        holds("set", desk, 1, 0, 0, 0, 0, 0, 0, 0, 0, 0);
        holds("set", desk, 2, 0, 0, 0, 0, 0, 0, 0, 0, 0);
        holds("set", desk, 3, 4, 4, 4, 3, 3, 3, 2, 2, 2);
        CHECK.due("set again", true, desk.set(0, 8, 0));
        CHECK.due("get what was set again", 0, desk.get(0, 8));
    }

    private static void get() {
        SimilarityDesk desk = desk(2, 1, 2, 3, 4);
        for (int wrong : NO_REGISTER) {
            CHECK.due("get(" + wrong + ", 0)", -1, desk.get(wrong, 0));
        }
        for (int wrong : new int[] {-1, 4, 15, 16, LEAST, MOST}) {
            CHECK.due("get(0, " + wrong + ")", -1, desk.get(0, wrong));
        }
        holds("get", desk, 0, 1, 2, 3, 4);
    }

    private static void apply() {
        SimilarityDesk desk = desk(2, 1, 2, 3, 4);
        fill(desk, 1, 4, 4, 0, 1);
        CHECK.due("ADD", true, desk.apply(0, 2, 0, 1));
        holds("ADD", desk, 2, 0, 1, 3, 0);
        CHECK.due("SUB", true, desk.apply(1, 2, 0, 1));
        holds("SUB", desk, 2, 2, 3, 3, 3);
        CHECK.due("SUB", true, desk.apply(1, 2, 1, 0));
        holds("SUB the other way", desk, 2, 3, 2, 2, 2);
        CHECK.due("MUL", true, desk.apply(2, 2, 0, 1));
        holds("MUL", desk, 2, 4, 1, 2, 1);
        CHECK.due("MUL", true, desk.apply(2, 2, 1, 0));
        holds("MUL the other way", desk, 2, 1, 4, 3, 4);
        for (int wrong : new int[] {-1, 3, LEAST, MOST}) {
            CHECK.due("apply(" + wrong + ", 0, 1, 1)", false, desk.apply(wrong, 0, 1, 1));
        }
        for (int wrong : NO_REGISTER) {
            for (int op = 0; op < 3; op++) {
                CHECK.due("apply to " + wrong, false, desk.apply(op, wrong, 1, 1));
                CHECK.due("apply from " + wrong, false, desk.apply(op, 0, wrong, 1));
                CHECK.due("apply with " + wrong, false, desk.apply(op, 0, 1, wrong));
            }
        }
        holds("refused apply", desk, 0, 1, 2, 3, 4);
        CHECK.due("MUL onto a", true, desk.apply(2, 0, 0, 1));
        holds("MUL onto a", desk, 0, 4, 1, 2, 1);
        holds("MUL onto a", desk, 1, 4, 4, 0, 1);
        CHECK.due("MUL onto b", true, desk.apply(2, 1, 0, 1));
        holds("MUL onto b", desk, 1, 1, 2, 3, 4);
        CHECK.due("MUL onto both", true, desk.apply(2, 1, 1, 1));
        holds("MUL onto both", desk, 1, 2, 0, 0, 2);
        CHECK.due("SUB onto both", true, desk.apply(1, 1, 1, 1));
        holds("SUB onto both", desk, 1, 0, 0, 0, 0);
        CHECK.due("ADD onto both", true, desk.apply(0, 0, 0, 0));
        holds("ADD onto both", desk, 0, 3, 2, 4, 2);
    }

    private static void power() {
        SimilarityDesk desk = desk(2, 1, 1, 0, 1);
        int[] exponents = {0, 1, 2, 4, 5, 999999999, 1000000000};
        int[] corner = {0, 1, 2, 4, 0, 4, 0};
        for (int i = 0; i < exponents.length; i++) {
            CHECK.due("power(1, 0, " + exponents[i] + ")", true, desk.power(1, 0, exponents[i]));
            holds("power " + exponents[i], desk, 1, 1, corner[i], 0, 1);
        }
        fill(desk, 1, 0, 2, 0, 0);
        for (int wrong : new int[] {-1, LEAST, 1000000001, MOST}) {
            CHECK.due("power(1, 0, " + wrong + ")", false, desk.power(1, 0, wrong));
        }
        for (int wrong : NO_REGISTER) {
            CHECK.due("power to " + wrong, false, desk.power(wrong, 0, 2));
            CHECK.due("power of " + wrong, false, desk.power(1, wrong, 2));
        }
        holds("refused power", desk, 1, 0, 2, 0, 0);
        CHECK.due("power(2, 1, 1)", true, desk.power(2, 1, 1));
        holds("power 1", desk, 2, 0, 2, 0, 0);
        CHECK.due("power(2, 1, 0)", true, desk.power(2, 1, 0));
        holds("power 0 of one that has no inverse", desk, 2, 1, 0, 0, 1);
        CHECK.due("power(3, 3, 0)", true, desk.power(3, 3, 0));
        holds("power 0 of 0", desk, 3, 1, 0, 0, 1);
        CHECK.due("power(1, 1, 2)", true, desk.power(1, 1, 2));
        holds("power onto itself", desk, 1, 0, 0, 0, 0);
        CHECK.due("power(0, 0, 3)", true, desk.power(0, 0, 3));
        holds("power onto itself", desk, 0, 1, 3, 0, 1);
    }

    private static void valueAt() {
        SimilarityDesk desk = desk(2, 1, 2, 3, 4);
        int[] polynomials = {0, 3, 5, 7, 25, 28, 125, 625, 3124};
        int[][] values = {{0, 0, 0, 0}, {3, 0, 0, 3}, {1, 2, 3, 4}, {3, 2, 3, 1}, {2, 0, 0, 2},
            {0, 0, 0, 0}, {2, 4, 1, 3}, {4, 0, 0, 4}, {0, 4, 1, 1}};
        for (int i = 0; i < polynomials.length; i++) {
            CHECK.due("valueAt(1, 0, " + polynomials[i] + ")", true,
                    desk.valueAt(1, 0, polynomials[i]));
            holds("value of " + polynomials[i], desk, 1, values[i]);
        }
        for (int wrong : new int[] {-1, LEAST, 3125, MOST}) {
            CHECK.due("valueAt(1, 0, " + wrong + ")", false, desk.valueAt(1, 0, wrong));
        }
        for (int wrong : NO_REGISTER) {
            CHECK.due("valueAt to " + wrong, false, desk.valueAt(wrong, 0, 1));
            CHECK.due("valueAt of " + wrong, false, desk.valueAt(1, wrong, 1));
        }
        holds("refused valueAt", desk, 1, 0, 4, 1, 1);
        CHECK.due("valueAt(0, 0, 7)", true, desk.valueAt(0, 0, 7));
        holds("value onto itself", desk, 0, 3, 2, 3, 1);
    }

    private static void invert() {
        SimilarityDesk desk = desk(2, 1, 2, 3, 4);
        CHECK.due("invert(1, 0)", true, desk.invert(1, 0));
        holds("inverse", desk, 1, 3, 1, 4, 2);
        holds("inverse leaves", desk, 0, 1, 2, 3, 4);
        fill(desk, 2, 1, 2, 2, 4);
        CHECK.due("invert one that has no inverse", false, desk.invert(1, 2));
        CHECK.due("invert 0", false, desk.invert(1, 3));
        CHECK.due("invert 0 onto itself", false, desk.invert(3, 3));
        for (int wrong : NO_REGISTER) {
            CHECK.due("invert to " + wrong, false, desk.invert(wrong, 0));
            CHECK.due("invert from " + wrong, false, desk.invert(1, wrong));
        }
        holds("refused inverse", desk, 1, 3, 1, 4, 2);
        holds("refused inverse", desk, 2, 1, 2, 2, 4);
        CHECK.due("invert(0, 0)", true, desk.invert(0, 0));
        holds("inverse onto itself", desk, 0, 3, 1, 4, 2);
        int[] inverses = {1, 3, 2, 4};
        for (int value = 1; value < 5; value++) {
            SimilarityDesk small = desk(1, value);
            CHECK.due("invert " + value, true, small.invert(3, 0));
            holds("invert " + value, small, 3, inverses[value - 1]);
        }
        SimilarityDesk large = desk(4, 1, 1, 0, 0, 0, 1, 1, 0, 0, 0, 1, 1, 0, 0, 0, 1);
        CHECK.due("invert of four rows", true, large.invert(1, 0));
        holds("inverse of four rows", large, 1, 1, 4, 1, 4, 0, 1, 4, 1, 0, 0, 1, 4, 0, 0, 0, 1);
    }

    private static void normal() {
        SimilarityDesk desk = desk(3, 1, 0, 0, 0, 1, 0, 0, 0, 2);
        CHECK.due("normal(1, 0)", true, desk.normal(1, 0));
        holds("normal", desk, 1, 1, 0, 0, 0, 0, 3, 0, 1, 3);
        holds("normal leaves", desk, 0, 1, 0, 0, 0, 1, 0, 0, 0, 2);
        for (int wrong : NO_REGISTER) {
            CHECK.due("normal to " + wrong, false, desk.normal(wrong, 0));
            CHECK.due("normal of " + wrong, false, desk.normal(1, wrong));
        }
        holds("refused normal", desk, 1, 1, 0, 0, 0, 0, 3, 0, 1, 3);
        CHECK.due("normal of a normal", true, desk.normal(2, 1));
        holds("normal of a normal", desk, 2, 1, 0, 0, 0, 0, 3, 0, 1, 3);
        CHECK.due("normal(0, 0)", true, desk.normal(0, 0));
        holds("normal onto itself", desk, 0, 1, 0, 0, 0, 0, 3, 0, 1, 3);
        CHECK.due("normal of 0", true, desk.normal(2, 3));
        holds("normal of 0", desk, 2, 0, 0, 0, 0, 0, 0, 0, 0, 0);
        SimilarityDesk small = desk(1, 3);
        CHECK.due("normal of one row", true, small.normal(1, 0));
        holds("normal of one row", small, 1, 3);
        SimilarityDesk twice = desk(4, 2, 1, 0, 0, 0, 2, 0, 0, 0, 0, 2, 4, 0, 0, 0, 2);
        CHECK.due("normal of two companions", true, twice.normal(3, 0));
        holds("normal of two companions", twice, 3, 0, 1, 0, 0, 1, 4, 0, 0, 0, 0, 0, 1, 0, 0, 1, 4);
        SimilarityDesk thrice = desk(4, 2, 1, 0, 0, 0, 2, 0, 0, 0, 0, 2, 0, 0, 0, 0, 2);
        CHECK.due("normal of three companions", true, thrice.normal(3, 0));
        holds("normal of three companions", thrice, 3,
                2, 0, 0, 0, 0, 2, 0, 0, 0, 0, 0, 1, 0, 0, 1, 4);
    }

    private static void determinant() {
        for (int value = 0; value < 5; value++) {
            CHECK.due("determinant of " + value, value, desk(1, value).determinant(0));
        }
        CHECK.due("determinant", 3, desk(2, 1, 2, 3, 4).determinant(0));
        CHECK.due("determinant of swapped rows", 2, desk(2, 3, 4, 1, 2).determinant(0));
        CHECK.due("determinant of equal rows", 0, desk(2, 1, 2, 1, 2).determinant(0));
        CHECK.due("determinant", 2, desk(3, 1, 2, 3, 4, 0, 1, 2, 3, 0).determinant(0));
        CHECK.due("determinant", 4,
                desk(4, 0, 0, 0, 1, 1, 0, 0, 0, 0, 1, 0, 0, 0, 0, 1, 0).determinant(0));
        for (int wrong : NO_REGISTER) {
            CHECK.due("determinant(" + wrong + ")", -1, desk(2, 1, 2, 3, 4).determinant(wrong));
        }
        CHECK.due("determinant(3)", 0, desk(2, 1, 2, 3, 4).determinant(3));
    }

    private static void characteristic() {
        int[] zeros = {5, 25, 125, 625};
        int[] ones = {9, 41, 194, 781};
        for (int n = 1; n <= 4; n++) {
            SimilarityDesk desk = new SimilarityDesk(n);
            CHECK.due("characteristic of 0, " + n, zeros[n - 1], desk.characteristic(0));
            desk.power(1, 0, 0);
            CHECK.due("characteristic of I, " + n, ones[n - 1], desk.characteristic(1));
        }
        CHECK.due("characteristic", 28, desk(2, 1, 2, 3, 4).characteristic(0));
        CHECK.due("characteristic of a turned one", 28, desk(2, 1, 3, 2, 4).characteristic(0));
        for (int wrong : NO_REGISTER) {
            CHECK.due("characteristic(" + wrong + ")", -1, desk(2, 1, 2).characteristic(wrong));
        }
    }

    private static void minimal() {
        for (int n = 1; n <= 4; n++) {
            SimilarityDesk desk = new SimilarityDesk(n);
            CHECK.due("minimal of 0, " + n, 5, desk.minimal(0));
            desk.power(1, 0, 0);
            CHECK.due("minimal of I, " + n, 9, desk.minimal(1));
        }
        CHECK.due("minimal", 28, desk(2, 1, 2, 3, 4).minimal(0));
        CHECK.due("minimal x^2", 25, desk(3, 0, 0, 1).minimal(0));
        CHECK.due("minimal x^3", 125, desk(3, 0, 1, 0, 0, 0, 1).minimal(0));
        CHECK.due("minimal (x - 1)(x - 2)", 37, desk(3, 1, 0, 0, 0, 1, 0, 0, 0, 2).minimal(0));
        for (int wrong : NO_REGISTER) {
            CHECK.due("minimal(" + wrong + ")", -1, desk(2, 1, 2).minimal(wrong));
        }
    }

    private static void invariants(String name, SimilarityDesk desk, int... factors) {
        for (int k = 0; k < factors.length; k++) {
            CHECK.due("invariant " + k + " of " + name, factors[k], desk.invariant(0, k));
        }
        for (int k : new int[] {-1, LEAST, factors.length, 4, 5, MOST}) {
            CHECK.due("invariant " + k + " of " + name, -2, desk.invariant(0, k));
        }
        for (int wrong : NO_REGISTER) {
            CHECK.due("invariant(" + wrong + ", 0)", -1, desk.invariant(wrong, 0));
            CHECK.due("invariant(" + wrong + ", -1)", -1, desk.invariant(wrong, -1));
            CHECK.due("invariant(" + wrong + ", 9)", -1, desk.invariant(wrong, 9));
        }
    }

    private static void invariant() {
        invariants("one row", desk(1, 3), 7);
        invariants("0", desk(4), 5, 5, 5, 5);
        invariants("x, x^2 in three rows", desk(3, 0, 0, 1), 5, 25);
        invariants("x, x, x^2", desk(4, 0, 1), 5, 5, 25);
        invariants("x^2, x^2", desk(4, 0, 1, 0, 0, 0, 0, 0, 0, 0, 0, 0, 1), 25, 25);
        invariants("x, x^3", desk(4, 0, 1, 0, 0, 0, 0, 1), 5, 125);
        invariants("x^4", desk(4, 0, 1, 0, 0, 0, 0, 1, 0, 0, 0, 0, 1), 625);
        invariants("0, 1, 2, 3 on the diagonal",
                desk(4, 0, 0, 0, 0, 0, 1, 0, 0, 0, 0, 2, 0, 0, 0, 0, 3), 625 + 4 * 125 + 25 + 4 * 5);
        invariants("0, 0, 1, 1 on the diagonal",
                desk(4, 0, 0, 0, 0, 0, 0, 0, 0, 0, 0, 1, 0, 0, 0, 0, 1), 45, 45);
        invariants("two rows", desk(2, 1, 2, 3, 4), 28);
    }

    private static void similar() {
        SimilarityDesk desk = desk(2, 1, 2, 3, 4);
        fill(desk, 1, 4, 3, 2, 1);
        fill(desk, 2, 1, 0, 0, 1);
        fill(desk, 3, 1, 1, 0, 1);
        CHECK.due("similar(0, 0)", true, desk.similar(0, 0));
        CHECK.due("similar(0, 1)", true, desk.similar(0, 1));
        CHECK.due("similar(1, 0)", true, desk.similar(1, 0));
        CHECK.due("similar(2, 3), alike but for the minimal", false, desk.similar(2, 3));
        CHECK.due("similar(3, 2)", false, desk.similar(3, 2));
        CHECK.due("similar(0, 2)", false, desk.similar(0, 2));
        for (int wrong : NO_REGISTER) {
            CHECK.due("similar(" + wrong + ", 0)", false, desk.similar(wrong, 0));
            CHECK.due("similar(0, " + wrong + ")", false, desk.similar(0, wrong));
            CHECK.due("similar(" + wrong + ", same)", false, desk.similar(wrong, wrong));
        }
        // Both have x^4 as characteristic and x^2 as minimal polynomial.
        SimilarityDesk large = desk(4, 0, 1);
        fill(large, 1, 0, 1, 0, 0, 0, 0, 0, 0, 0, 0, 0, 1);
        fill(large, 2, 0, 0, 0, 0, 0, 0, 0, 0, 0, 0, 0, 0, 3);
        CHECK.due("one step or two", false, large.similar(0, 1));
        CHECK.due("one step elsewhere", true, large.similar(0, 2));
    }

    private static void order() {
        int[] orders = {0, 1, 4, 4, 2};
        for (int value = 0; value < 5; value++) {
            CHECK.due("order of " + value, orders[value], desk(1, value).order(0));
        }
        CHECK.due("order of 1 1 / 0 1", 5, desk(2, 1, 1, 0, 1).order(0));
        CHECK.due("order of 2 1 / 0 2", 20, desk(2, 2, 1, 0, 2).order(0));
        CHECK.due("order of 1 2 / 3 4", 8, desk(2, 1, 2, 3, 4).order(0));
        CHECK.due("order of a wheel", 4,
                desk(4, 0, 0, 0, 1, 1, 0, 0, 0, 0, 1, 0, 0, 0, 0, 1, 0).order(0));
        CHECK.due("order of one without inverse", 0, desk(2, 1, 0, 0, 0).order(0));
        // The companion of x^4 + x^2 + 2 x + 2, whose root has every other as a power.
        CHECK.due("the greatest order", 624,
                desk(4, 0, 0, 0, 3, 1, 0, 0, 3, 0, 1, 0, 4, 0, 0, 1, 0).order(0));
        for (int wrong : NO_REGISTER) {
            CHECK.due("order(" + wrong + ")", -1, desk(2, 1, 1, 0, 1).order(wrong));
        }
    }

    private static void eigen() {
        SimilarityDesk desk = desk(4, 2, 1, 0, 0, 0, 2, 0, 0, 0, 0, 2, 0, 0, 0, 0, 0);
        int[] due = {1, 0, 2, 0, 0};
        for (int w = 0; w < 5; w++) {
            CHECK.due("eigen(0, " + w + ")", due[w], desk.eigen(0, w));
        }
        CHECK.due("eigen of 0", 4, desk.eigen(1, 0));
        CHECK.due("eigen of 0", 0, desk.eigen(1, 1));
        for (int wrong : new int[] {-1, 5, 7, LEAST, MOST}) {
            CHECK.due("eigen(0, " + wrong + ")", -1, desk.eigen(0, wrong));
        }
        for (int wrong : NO_REGISTER) {
            CHECK.due("eigen(" + wrong + ", 0)", -1, desk.eigen(wrong, 0));
        }
        SimilarityDesk turned = desk(2, 1, 2, 3, 4);
        for (int w = 0; w < 5; w++) {
            CHECK.due("eigen of one that has none", 0, turned.eigen(0, w));
        }
    }

    private static void diagonal() {
        CHECK.due("0", true, new SimilarityDesk(4).diagonal(0));
        CHECK.due("one row", true, desk(1, 3).diagonal(0));
        CHECK.due("0 1 / 1 0", true, desk(2, 0, 1, 1, 0).diagonal(0));
        CHECK.due("0 1 / 0 0", false, desk(2, 0, 1, 0, 0).diagonal(0));
        CHECK.due("1 1 / 0 2", true, desk(2, 1, 1, 0, 2).diagonal(0));
        CHECK.due("1 1 / 0 1", false, desk(2, 1, 1, 0, 1).diagonal(0));
        CHECK.due("no root in the field", false, desk(2, 1, 2, 3, 4).diagonal(0));
        CHECK.due("a wheel", true,
                desk(4, 0, 0, 0, 1, 1, 0, 0, 0, 0, 1, 0, 0, 0, 0, 1, 0).diagonal(0));
        CHECK.due("4 has a root in the field", true,
                desk(3, 1, 0, 0, 0, 0, 4, 0, 1, 0).diagonal(0));
        CHECK.due("3 has none", false, desk(3, 1, 0, 0, 0, 0, 3, 0, 1, 0).diagonal(0));
        for (int wrong : NO_REGISTER) {
            CHECK.due("diagonal(" + wrong + ")", false, new SimilarityDesk(2).diagonal(wrong));
        }
    }

    private static void commutant() {
        for (int n = 1; n <= 4; n++) {
            CHECK.due("commutant of 0", n * n, new SimilarityDesk(n).commutant(0));
        }
        CHECK.due("commutant of one companion", 2, desk(2, 1, 2, 3, 4).commutant(0));
        CHECK.due("commutant of 1, 2", 2, desk(2, 1, 0, 0, 2).commutant(0));
        CHECK.due("commutant of 1, 1, 2", 5, desk(3, 1, 0, 0, 0, 1, 0, 0, 0, 2).commutant(0));
        CHECK.due("commutant of x, x, x^2", 10, desk(4, 0, 1).commutant(0));
        CHECK.due("commutant of x^2, x^2", 8,
                desk(4, 0, 1, 0, 0, 0, 0, 0, 0, 0, 0, 0, 1).commutant(0));
        CHECK.due("commutant of x, x^3", 6, desk(4, 0, 1, 0, 0, 0, 0, 1).commutant(0));
        for (int wrong : NO_REGISTER) {
            CHECK.due("commutant(" + wrong + ")", -1, desk(2, 1, 0, 0, 2).commutant(wrong));
        }
    }
}
