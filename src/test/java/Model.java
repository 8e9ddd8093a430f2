/** The document's promises over the plain matrices of the tests, one method for each. */
final class Model {
    static final int BAD = -1;
    static final int NONE = -2;

    private final int n;
    private final int[][][] registers;

    Model(int size) {
        n = Math.max(1, Math.min(4, size));
        registers = new int[4][n][n];
    }

    int rows() {
        return n;
    }

    int[][] matrix(int r) {
        return registers[r];
    }

    private static boolean in(int value, int least, int most) {
        return value >= least && value <= most;
    }

    private static boolean registers(int... numbers) {
        for (int r : numbers) {
            if (!in(r, 0, 3)) {
                return false;
            }
        }
        return true;
    }

    boolean set(int r, int at, int value) {
        if (!registers(r) || !in(at, 0, n * n - 1) || !in(value, 0, 4)) {
            return false;
        }
        int[][] changed = Matrices.combine(registers[r], 0, registers[r]);
        changed[at / n][at % n] = value;
        registers[r] = changed;
        return true;
    }

    int get(int r, int at) {
        return registers(r) && in(at, 0, n * n - 1) ? registers[r][at / n][at % n] : BAD;
    }

    boolean apply(int op, int d, int a, int b) {
        if (!in(op, 0, 2) || !registers(d, a, b)) {
            return false;
        }
        int[][] left = registers[a];
        int[][] right = registers[b];
        registers[d] = op == 2 ? Matrices.product(left, right)
                : Matrices.combine(left, op == 0 ? 1 : -1, right);
        return true;
    }

    boolean power(int d, int a, int k) {
        if (!registers(d, a) || !in(k, 0, 1_000_000_000)) {
            return false;
        }
        registers[d] = Matrices.power(registers[a], k);
        return true;
    }

    boolean valueAt(int d, int a, int polynomial) {
        if (!registers(d, a) || !in(polynomial, 0, 3124)) {
            return false;
        }
        registers[d] = Matrices.value(polynomial, registers[a]);
        return true;
    }

    boolean invert(int d, int a) {
        if (!registers(d, a)) {
            return false;
        }
        int[][] inverse = Matrices.inverse(registers[a]);
        if (inverse == null) {
            return false;
        }
        registers[d] = inverse;
        return true;
    }

    boolean normal(int d, int a) {
        if (!registers(d, a)) {
            return false;
        }
        registers[d] = Matrices.companions(Matrices.invariants(registers[a]), n);
        return true;
    }

    int determinant(int r) {
        return registers(r) ? Matrices.determinant(registers[r]) : BAD;
    }

    int characteristic(int r) {
        return registers(r) ? Matrices.characteristic(registers[r]) : BAD;
    }

    int minimal(int r) {
        return registers(r) ? Matrices.minimal(registers[r]) : BAD;
    }

    int invariant(int r, int k) {
        if (!registers(r)) {
            return BAD;
        }
        int[] factors = Matrices.invariants(registers[r]);
        return in(k, 0, factors.length - 1) ? factors[k] : NONE;
    }

    boolean similar(int a, int b) {
        return registers(a, b) && Matrices.similar(registers[a], registers[b]);
    }

    int order(int r) {
        return registers(r) ? Matrices.order(registers[r]) : BAD;
    }

    int eigen(int r, int w) {
        return registers(r) && in(w, 0, 4) ? Matrices.eigen(registers[r], w) : BAD;
    }

    boolean diagonal(int r) {
        return registers(r) && Matrices.diagonal(registers[r]);
    }

    int commutant(int r) {
        return registers(r) ? Matrices.commutant(registers[r]) : BAD;
    }
}
