/** Matrices over the field of five numbers, by the plainest means, to measure the program by. */
final class Matrices {
    private Matrices() {
    }

    static int rest(int value) {
        return Math.floorMod(value, 5);
    }

    static int[][] scalar(int n, int value) {
        int[][] result = new int[n][n];
        for (int i = 0; i < n; i++) {
            result[i][i] = rest(value);
        }
        return result;
    }

    static int[][] combine(int[][] a, int scale, int[][] b) {
        int n = a.length;
        int[][] result = new int[n][n];
        for (int i = 0; i < n; i++) {
            for (int j = 0; j < n; j++) {
                result[i][j] = rest(a[i][j] + scale * b[i][j]);
            }
        }
        return result;
    }

    static int[][] product(int[][] a, int[][] b) {
        int n = a.length;
        int[][] result = new int[n][n];
        for (int i = 0; i < n; i++) {
            for (int j = 0; j < n; j++) {
                int sum = 0;
                for (int m = 0; m < n; m++) {
                    sum += a[i][m] * b[m][j];
                }
                result[i][j] = rest(sum);
            }
        }
        return result;
    }

    static boolean same(int[][] a, int[][] b) {
        return java.util.Arrays.deepEquals(a, b);
    }

    static boolean isZero(int[][] a) {
        return same(a, scalar(a.length, 0));
    }

    /** The row-echelon rank of any list of rows. */
    static int rank(int[][] rows) {
        int[][] m = new int[rows.length][];
        for (int i = 0; i < rows.length; i++) {
            m[i] = rows[i].clone();
        }
        int rank = 0;
        for (int column = 0; column < m[0].length && rank < m.length; column++) {
            int pivot = rank;
            while (pivot < m.length && m[pivot][column] == 0) {
                pivot++;
            }
            if (pivot == m.length) {
                continue;
            }
            int[] row = m[pivot];
            m[pivot] = m[rank];
            m[rank] = row;
            for (int i = rank + 1; i < m.length; i++) {
                while (m[i][column] != 0) {
                    for (int j = 0; j < row.length; j++) {
                        m[i][j] = rest(m[i][j] + row[j]);
                    }
                }
            }
            rank++;
        }
        return rank;
    }

    static int determinant(int[][] a) {
        int n = a.length;
        if (n == 0) {
            return 1;
        }
        int sum = 0;
        for (int column = 0; column < n; column++) {
            int[][] part = new int[n - 1][n - 1];
            for (int i = 1; i < n; i++) {
                for (int j = 0; j < n - 1; j++) {
                    part[i - 1][j] = a[i][j < column ? j : j + 1];
                }
            }
            sum += (column % 2 == 0 ? 1 : -1) * a[0][column] * determinant(part);
        }
        return rest(sum);
    }

    /** The smallest k above 0 with a^k = I, or 0. */
    static int order(int[][] a) {
        int[][] one = scalar(a.length, 1);
        int[][] power = a;
        for (int k = 1; k <= 3000; k++) {
            if (same(power, one)) {
                return k;
            }
            power = product(power, a);
        }
        return 0;
    }

    static int[][] power(int[][] a, int k) {
        int[][] result = scalar(a.length, 1);
        for (int bit = 31; bit >= 0; bit--) {
            result = product(result, result);
            if ((k >>> bit & 1) == 1) {
                result = product(result, a);
            }
        }
        return result;
    }

    /** The inverse, which is one of the powers, or null. */
    static int[][] inverse(int[][] a) {
        int order = order(a);
        return order == 0 ? null : power(a, order - 1);
    }

    static int[][] value(int polynomial, int[][] a) {
        int[][] sum = scalar(a.length, 0);
        int[][] power = scalar(a.length, 1);
        for (int left = polynomial; left > 0; left /= 5) {
            sum = combine(sum, left % 5, power);
            power = product(power, a);
        }
        return sum;
    }

    /** The only monic polynomial of degree n with det(w I - a) as its value at each w. */
    static int characteristic(int[][] a) {
        int n = a.length;
        int first = Polynomials.place(n);
        for (int p = first; p < 2 * first; p++) {
            boolean fits = true;
            for (int w = 0; w < 5 && fits; w++) {
                int[][] shifted = combine(scalar(n, w), -1, a);
                fits = Polynomials.valueAt(p, w) == determinant(shifted);
            }
            if (fits) {
                return p;
            }
        }
        throw new IllegalStateException("no characteristic polynomial");
    }

    static int minimal(int[][] a) {
        for (int degree = 1; degree <= a.length; degree++) {
            int first = Polynomials.place(degree);
            for (int p = first; p < 2 * first; p++) {
                if (isZero(value(p, a))) {
                    return p;
                }
            }
        }
        throw new IllegalStateException("no minimal polynomial");
    }

    static int nullity(int[][] a) {
        return a.length - rank(a);
    }

    /**
     * The invariant factors, first to last, from the elementary divisors: for an irreducible p of
     * degree e, the nullity of p^j grows by e for each companion whose factor p^j divides.
     */
    static int[] invariants(int[][] a) {
        int n = a.length;
        int[] fromLast = new int[n];
        java.util.Arrays.fill(fromLast, 1);
        for (int p : Polynomials.irreducibles(n)) {
            int before = 0;
            int[][] value = value(p, a);
            int[][] power = value;
            for (int j = 1; j <= n; j++) {
                int nullity = nullity(power);
                int blocks = (nullity - before) / Polynomials.degree(p);
                for (int i = 0; i < blocks; i++) {
                    fromLast[i] = Polynomials.product(fromLast[i], p);
                }
                before = nullity;
                power = product(power, value);
            }
        }
        int count = 0;
        while (count < n && fromLast[count] != 1) {
            count++;
        }
        int[] result = new int[count];
        for (int i = 0; i < count; i++) {
            result[i] = fromLast[count - 1 - i];
        }
        return result;
    }

    static int[][] companions(int[] factors, int n) {
        int[][] result = new int[n][n];
        int corner = 0;
        for (int factor : factors) {
            int m = Polynomials.degree(factor);
            for (int i = 1; i < m; i++) {
                result[corner + i][corner + i - 1] = 1;
            }
            for (int i = 0; i < m; i++) {
                int entry = result[corner + i][corner + m - 1];
                result[corner + i][corner + m - 1] =
                        rest(entry - Polynomials.coefficient(factor, i));
            }
            corner += m;
        }
        return result;
    }

    /** Up to 2 rows by trying every X; above, by the ranks of all polynomials' values. */
    static boolean similar(int[][] a, int[][] b) {
        int n = a.length;
        if (n <= 2) {
            for (int number = 0; number < Polynomials.place(n * n); number++) {
                int[][] x = numbered(number, n);
                if (determinant(x) != 0 && same(product(a, x), product(x, b))) {
                    return true;
                }
            }
            return false;
        }
        for (int degree = 1; degree <= n; degree++) {
            int first = Polynomials.place(degree);
            for (int p = first; p < 2 * first; p++) {
                if (rank(value(p, a)) != rank(value(p, b))) {
                    return false;
                }
            }
        }
        return true;
    }

    /** Counts the vectors v with a v = w v: there are 5 to the answer of them. */
    static int eigen(int[][] a, int w) {
        int n = a.length;
        int found = 0;
        for (int number = 0; number < Polynomials.place(n); number++) {
            boolean fits = true;
            for (int i = 0; i < n && fits; i++) {
                int sum = 0;
                for (int j = 0; j < n; j++) {
                    sum += a[i][j] * Polynomials.coefficient(number, j);
                }
                fits = rest(sum - w * Polynomials.coefficient(number, i)) == 0;
            }
            if (fits) {
                found++;
            }
        }
        return Polynomials.exponent(found);
    }

    /** Whether the minimal polynomial has only simple roots, that is, divides x^5 - x. */
    static boolean diagonal(int[][] a) {
        return same(power(a, 5), a);
    }

    /** Up to 2 rows by counting every X; above, from the rank of the equations A X - X A = 0. */
    static int commutant(int[][] a) {
        int n = a.length;
        if (n <= 2) {
            int found = 0;
            for (int number = 0; number < Polynomials.place(n * n); number++) {
                int[][] x = numbered(number, n);
                if (same(product(a, x), product(x, a))) {
                    found++;
                }
            }
            return Polynomials.exponent(found);
        }
        int[][] rows = new int[n * n][n * n];
        for (int i = 0; i < n * n; i++) {
            int[][] x = new int[n][n];
            x[i / n][i % n] = 1;
            int[][] difference = combine(product(a, x), -1, product(x, a));
            for (int j = 0; j < n * n; j++) {
                rows[i][j] = difference[j / n][j % n];
            }
        }
        return n * n - rank(rows);
    }

    /** The matrix whose entries are the digits of a number in base five. */
    static int[][] numbered(int number, int n) {
        int[][] result = new int[n][n];
        int left = number;
        for (int at = 0; at < n * n; at++) {
            result[at / n][at % n] = left % 5;
            left /= 5;
        }
        return result;
    }

    static int[][] unordered(Numbers numbers, int n) {
        int[][] result = new int[n][n];
        for (int at = 0; at < n * n; at++) {
            result[at / n][at % n] = numbers.below(5);
        }
        return result;
    }

    static int[][] invertible(Numbers numbers, int n) {
        int[][] result = unordered(numbers, n);
        while (determinant(result) == 0) {
            result = unordered(numbers, n);
        }
        return result;
    }
}
