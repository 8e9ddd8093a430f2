/** A desk and the model beside it: every call goes to both, and their answers are compared. */
final class Pair {
    static final int MOST_CALLS = 512;

    private final Check check;
    private final String name;
    private final SimilarityDesk desk;
    private final Model model;
    private int calls = 0;

    Pair(Check check, String name, int size) {
        this.check = check;
        this.name = name + " new(" + size + ")";
        desk = new SimilarityDesk(size);
        model = new Model(size);
    }

    int rows() {
        return model.rows();
    }

    int[][] matrix(int r) {
        return model.matrix(r);
    }

    int callsLeft() {
        return MOST_CALLS - calls;
    }

    // What a desk answers after its 512th call is free, so a test that goes there proves nothing.
    private String call(String method, int... arguments) {
        calls++;
        if (calls > MOST_CALLS) {
            throw new IllegalStateException(name + ": the test calls one object too often");
        }
        StringBuilder text = new StringBuilder(name + " call " + calls + " " + method + "(");
        for (int i = 0; i < arguments.length; i++) {
            text.append(i == 0 ? "" : ", ").append(arguments[i]);
        }
        return text.append(")").toString();
    }

    void set(int r, int at, int value) {
        check.due(call("set", r, at, value), model.set(r, at, value), desk.set(r, at, value));
    }

    void get(int r, int at) {
        check.due(call("get", r, at), model.get(r, at), desk.get(r, at));
    }

    void apply(int op, int d, int a, int b) {
        check.due(call("apply", op, d, a, b), model.apply(op, d, a, b), desk.apply(op, d, a, b));
    }

    void power(int d, int a, int k) {
        check.due(call("power", d, a, k), model.power(d, a, k), desk.power(d, a, k));
    }

    void valueAt(int d, int a, int p) {
        check.due(call("valueAt", d, a, p), model.valueAt(d, a, p), desk.valueAt(d, a, p));
    }

    void invert(int d, int a) {
        check.due(call("invert", d, a), model.invert(d, a), desk.invert(d, a));
    }

    void normal(int d, int a) {
        check.due(call("normal", d, a), model.normal(d, a), desk.normal(d, a));
    }

    void determinant(int r) {
        check.due(call("determinant", r), model.determinant(r), desk.determinant(r));
    }

    void characteristic(int r) {
        check.due(call("characteristic", r), model.characteristic(r), desk.characteristic(r));
    }

    void minimal(int r) {
        check.due(call("minimal", r), model.minimal(r), desk.minimal(r));
    }

    void invariant(int r, int k) {
        check.due(call("invariant", r, k), model.invariant(r, k), desk.invariant(r, k));
    }

    void similar(int a, int b) {
        check.due(call("similar", a, b), model.similar(a, b), desk.similar(a, b));
    }

    void order(int r) {
        check.due(call("order", r), model.order(r), desk.order(r));
    }

    void eigen(int r, int w) {
        check.due(call("eigen", r, w), model.eigen(r, w), desk.eigen(r, w));
    }

    void diagonal(int r) {
        check.due(call("diagonal", r), model.diagonal(r), desk.diagonal(r));
    }

    void commutant(int r) {
        check.due(call("commutant", r), model.commutant(r), desk.commutant(r));
    }

    void fill(int r, int[][] matrix) {
        int n = rows();
        for (int at = 0; at < n * n; at++) {
            set(r, at, matrix[at / n][at % n]);
        }
    }

    void look(int r) {
        for (int at = 0; at < rows() * rows(); at++) {
            get(r, at);
        }
    }

    void lookAtAll() {
        for (int r = 0; r < 4; r++) {
            look(r);
        }
    }

    /** Everything that is asked of one matrix. */
    void askAll(int r) {
        determinant(r);
        characteristic(r);
        minimal(r);
        for (int k = -1; k <= rows(); k++) {
            invariant(r, k);
        }
        order(r);
        for (int w = 0; w < 5; w++) {
            eigen(r, w);
        }
        diagonal(r);
        commutant(r);
    }
}
