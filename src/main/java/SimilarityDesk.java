/**
 * Square matrices over the field of five numbers, and what makes two of them alike.
 *
 * A polynomial is held as the document writes it: the number whose digits in base five are its
 * coefficients. None of them here has a degree above 4, so that every one is below 3125.
 */
public final class SimilarityDesk {
    public static final int BAD = -1;
    public static final int NONE = -2;
    public static final int ADD = 0;
    public static final int SUB = 1;
    public static final int MUL = 2;

    private static final int FIELD = 5;
    private static final int MOST_ROWS = 4;
    private static final int REGISTERS = 4;
    private static final int MOST_EXPONENT = 1000000000;
    private static final int EXPONENT_BITS = 30;

    // A polynomial has five coefficients at most, and its number is below 5^5.
    private static final int PLACES = 5;
    private static final int POLYNOMIALS = 3125;

    // The registers are slots 0 to 3. Results are worked out in slots behind them, since the
    // register that receives a result may also be one that is still read.
    private static final int SLOT_CELLS = 16;
    private static final int WORK = 4;
    private static final int BASE = 5;
    private static final int PRODUCT = 6;
    private static final int ALL_CELLS = 112;

    // Sets of rows or of columns are bit masks of four bits.
    private static final int SETS = 16;
    private static final int ALL_MINORS = 256;

    // No order is above 5^4 - 1 = 624, and a Euclidean run takes at most ten steps.
    private static final int MOST_ORDER = 1000000;
    private static final int MOST_STEPS = 1000;

    private final int size;
    private final int[] cells = new int[ALL_CELLS];

    // The determinants of the square parts of x I - A, at SETS * rows + columns.
    private final int[] minors = new int[ALL_MINORS];

    // Two lists of MOST_ROWS places. A list has size entries, each dividing the next one and all
    // of them with the characteristic polynomial as product; the ones that are the polynomial 1
    // stand in front, the others are the invariant factors.
    private final int[] factors = new int[8];

    public SimilarityDesk(int size) {
        this.size = size < 1 ? 1 : size > MOST_ROWS ? MOST_ROWS : size;
    }

    public boolean set(int r, int at, int value) {
        if (!isRegister(r) || !isPlace(at) || !isNumber(value)) {
            return false;
        }
        cells[SLOT_CELLS * r + at] = value;
        return true;
    }

    public int get(int r, int at) {
        if (!isRegister(r) || !isPlace(at)) {
            return BAD;
        }
        return cells[SLOT_CELLS * r + at];
    }

    public boolean apply(int op, int d, int a, int b) {
        if (op < ADD || op > MUL || !isRegister(d) || !isRegister(a) || !isRegister(b)) {
            return false;
        }
        if (op == MUL) {
            multiply(d, a, b);
        } else {
            addMultiple(d, a, op == ADD ? 1 : FIELD - 1, b);
        }
        return true;
    }

    public boolean power(int d, int a, int k) {
        if (!isRegister(d) || !isRegister(a) || k < 0 || k > MOST_EXPONENT) {
            return false;
        }
        copy(BASE, a);
        clear(WORK);
        addToDiagonal(WORK, 1);
        for (int bit = 0; bit < EXPONENT_BITS; bit++) {
            if (((k >> bit) & 1) == 1) {
                multiply(WORK, WORK, BASE);
            }
            multiply(BASE, BASE, BASE);
        }
        copy(d, WORK);
        return true;
    }

    public boolean valueAt(int d, int a, int polynomial) {
        if (!isRegister(d) || !isRegister(a) || polynomial < 0 || polynomial >= POLYNOMIALS) {
            return false;
        }
        evaluate(d, a, polynomial);
        return true;
    }

    public boolean invert(int d, int a) {
        if (!isRegister(d) || !isRegister(a)) {
            return false;
        }
        int whole = characteristicOf(a);
        int constant = whole % FIELD;
        if (constant == 0) {
            return false;
        }
        // The characteristic polynomial's value at A is 0. With c as its constant coefficient and
        // x q as the rest of it, A q(A) = -c I, so the inverse is the value of -q / c.
        int scale = FIELD - reciprocal(constant);
        int polynomial = plusMultiple(0, scale, whole / FIELD);
        evaluate(d, a, polynomial);
        return true;
    }

    public boolean normal(int d, int a) {
        if (!isRegister(d) || !isRegister(a)) {
            return false;
        }
        findFactors(a, 0);
        clear(d);
        int corner = 0;
        for (int i = 0; i < size; i++) {
            int factor = factors[i];
            int rows = degree(factor);
            // The degrees add up to size, so this never fails; it keeps every index in sight.
            if (corner + rows <= size) {
                writeCompanion(d, corner, factor);
            }
            corner += rows;
        }
        return true;
    }

    public int determinant(int r) {
        if (!isRegister(r)) {
            return BAD;
        }
        // At x = 0 the determinant of x I - A is that of -A.
        int constant = characteristicOf(r) % FIELD;
        return size % 2 == 0 ? constant : (FIELD - constant) % FIELD;
    }

    public int characteristic(int r) {
        if (!isRegister(r)) {
            return BAD;
        }
        return characteristicOf(r);
    }

    public int minimal(int r) {
        if (!isRegister(r)) {
            return BAD;
        }
        // All invariant factors divide the last one, so its value at A is 0 on every companion.
        findFactors(r, 0);
        return factors[size - 1];
    }

    public int invariant(int r, int k) {
        if (!isRegister(r)) {
            return BAD;
        }
        findFactors(r, 0);
        int ones = 0;
        for (int i = 0; i < size; i++) {
            if (factors[i] == 1) {
                ones++;
            }
        }
        if (k < 0 || k >= size - ones) {
            return NONE;
        }
        return factors[ones + k];
    }

    public boolean similar(int a, int b) {
        if (!isRegister(a) || !isRegister(b)) {
            return false;
        }
        findFactors(a, 0);
        findFactors(b, MOST_ROWS);
        for (int i = 0; i < size; i++) {
            if (factors[i] != factors[MOST_ROWS + i]) {
                return false;
            }
        }
        return true;
    }

    public int order(int r) {
        if (!isRegister(r)) {
            return BAD;
        }
        int constant = characteristicOf(r) % FIELD;
        if (constant == 0) {
            return 0;
        }
        copy(WORK, r);
        for (int k = 1; k < MOST_ORDER; k++) {
            if (isIdentity(WORK)) {
                return k;
            }
            multiply(WORK, WORK, r);
        }
        return 0;
    }

    public int eigen(int r, int w) {
        if (!isRegister(r) || !isNumber(w)) {
            return BAD;
        }
        findFactors(r, 0);
        return factorsWithRoot(w);
    }

    public boolean diagonal(int r) {
        if (!isRegister(r)) {
            return false;
        }
        // Similar to a diagonal matrix: the vectors that A only stretches span the whole space.
        findFactors(r, 0);
        int found = 0;
        for (int w = 0; w < FIELD; w++) {
            found += factorsWithRoot(w);
        }
        return found == size;
    }

    public int commutant(int r) {
        if (!isRegister(r)) {
            return BAD;
        }
        // For each pair of invariant factors, the X that carry one companion's part into the
        // other's give as many dimensions as the common divisor has degrees: the degree of the
        // earlier one. Factor i is the earlier one (or both) in 2 (size - 1 - i) + 1 pairs.
        findFactors(r, 0);
        int dimensions = 0;
        for (int i = 0; i < size; i++) {
            int pairs = 2 * (size - 1 - i) + 1;
            dimensions += pairs * degree(factors[i]);
        }
        return dimensions;
    }

    private static boolean isRegister(int r) {
        return r >= 0 && r < REGISTERS;
    }

    private static boolean isNumber(int value) {
        return value >= 0 && value < FIELD;
    }

    private boolean isPlace(int at) {
        return at >= 0 && at < size * size;
    }

    private void clear(int slot) {
        for (int at = 0; at < size * size; at++) {
            cells[SLOT_CELLS * slot + at] = 0;
        }
    }

    private void copy(int to, int from) {
        for (int at = 0; at < size * size; at++) {
            cells[SLOT_CELLS * to + at] = cells[SLOT_CELLS * from + at];
        }
    }

    private void addToDiagonal(int slot, int value) {
        for (int i = 0; i < size; i++) {
            int cell = SLOT_CELLS * slot + size * i + i;
            cells[cell] = (cells[cell] + value) % FIELD;
        }
    }

    /** Slot d becomes a + scale b. */
    private void addMultiple(int d, int a, int scale, int b) {
        for (int at = 0; at < size * size; at++) {
            int sum = cells[SLOT_CELLS * a + at] + scale * cells[SLOT_CELLS * b + at];
            cells[SLOT_CELLS * d + at] = sum % FIELD;
        }
    }

    /** Slot d becomes a b; d may be a or b. */
    private void multiply(int d, int a, int b) {
        for (int row = 0; row < size; row++) {
            for (int column = 0; column < size; column++) {
                int sum = 0;
                for (int i = 0; i < size; i++) {
                    int left = cells[SLOT_CELLS * a + size * row + i];
                    sum += left * cells[SLOT_CELLS * b + size * i + column];
                }
                cells[SLOT_CELLS * PRODUCT + size * row + column] = sum % FIELD;
            }
        }
        copy(d, PRODUCT);
    }

    private boolean isIdentity(int slot) {
        for (int row = 0; row < size; row++) {
            for (int column = 0; column < size; column++) {
                int due = row == column ? 1 : 0;
                if (cells[SLOT_CELLS * slot + size * row + column] != due) {
                    return false;
                }
            }
        }
        return true;
    }

    /** Slot d becomes the value of the polynomial at a; d may be a. */
    private void evaluate(int d, int a, int polynomial) {
        clear(WORK);
        int place = POLYNOMIALS;
        for (int i = 0; i < PLACES; i++) {
            place /= FIELD;
            multiply(WORK, WORK, a);
            addToDiagonal(WORK, polynomial / place % FIELD);
        }
        copy(d, WORK);
    }

    /** Writes a factor's companion with its upper left entry in row and column corner. */
    private void writeCompanion(int slot, int corner, int factor) {
        int rows = degree(factor);
        int coefficients = factor;
        for (int i = 0; i < rows; i++) {
            int start = SLOT_CELLS * slot + size * (corner + i) + corner;
            if (i > 0) {
                cells[start + i - 1] = 1;
            }
            cells[start + rows - 1] = (FIELD - coefficients % FIELD) % FIELD;
            coefficients /= FIELD;
        }
    }

    private int characteristicOf(int slot) {
        findMinors(slot);
        int all = (1 << size) - 1;
        return minors[SETS * all + all];
    }

    /**
     * Writes a matrix's list into factors, from place start on: entry k - 1 is the greatest
     * common divisor of the minors of k rows, divided by that of the minors of k - 1 rows.
     */
    private void findFactors(int slot, int start) {
        findMinors(slot);
        int before = 1;
        for (int k = 1; k <= size; k++) {
            int divisor = divisorOfMinors(k);
            factors[start + k - 1] = quotient(divisor, before);
            before = divisor;
        }
    }

    private void findMinors(int slot) {
        int sets = 1 << size;
        minors[0] = 1;
        for (int rows = 1; rows < sets; rows++) {
            for (int columns = 1; columns < sets; columns++) {
                int height = members(rows);
                int width = members(columns);
                if (height == width) {
                    minors[SETS * rows + columns] = expandedMinor(slot, rows, columns);
                }
            }
        }
    }

    /** A minor of x I - A, from the minors that have all of its rows but the first. */
    private int expandedMinor(int slot, int rows, int columns) {
        int otherRows = rows & (rows - 1);
        int row = members((rows ^ otherRows) - 1);
        int sum = 0;
        int sign = 1;
        for (int column = 0; column < size; column++) {
            int bit = 1 << column;
            if ((columns & bit) != 0) {
                int minor = minors[SETS * otherRows + (columns ^ bit)];
                int entry = cells[SLOT_CELLS * slot + size * row + column];
                int scale = sign * (FIELD - entry) % FIELD;
                sum = plusMultiple(sum, scale, minor);
                if (row == column) {
                    // Times x: every coefficient moves up one place.
                    sum = plusMultiple(sum, sign, FIELD * minor);
                }
                sign = FIELD - sign;
            }
        }
        return sum;
    }

    private int divisorOfMinors(int k) {
        int sets = 1 << size;
        int divisor = 0;
        for (int rows = 1; rows < sets; rows++) {
            for (int columns = 1; columns < sets; columns++) {
                int height = members(rows);
                int width = members(columns);
                if (height == k && width == k) {
                    divisor = commonDivisor(divisor, minors[SETS * rows + columns]);
                }
            }
        }
        return divisor;
    }

    private int factorsWithRoot(int w) {
        int found = 0;
        for (int i = 0; i < size; i++) {
            int value = valueAtNumber(factors[i], w);
            if (value == 0) {
                found++;
            }
        }
        return found;
    }

    private static int members(int set) {
        int count = 0;
        for (int bit = 0; bit < MOST_ROWS; bit++) {
            count += (set >> bit) & 1;
        }
        return count;
    }

    /** 1 / value for a value from 1 to 4: in this field its fourth power is 1. */
    private static int reciprocal(int value) {
        return value * value * value % FIELD;
    }

    /** The polynomial p + scale q, scale being from 0 to 4. */
    private static int plusMultiple(int p, int scale, int q) {
        int sum = 0;
        int place = 1;
        for (int i = 0; i < PLACES; i++) {
            int coefficient = (p / place + scale * (q / place)) % FIELD;
            sum += coefficient * place;
            place *= FIELD;
        }
        return sum;
    }

    /** 5 to the power of the degree; 1 for the polynomial 0, so that it can always divide. */
    private static int topPlace(int polynomial) {
        int place = 1;
        for (int i = 1; i < PLACES; i++) {
            if (polynomial >= place * FIELD) {
                place *= FIELD;
            }
        }
        return place;
    }

    private static int degree(int polynomial) {
        int degree = 0;
        int rest = polynomial / FIELD;
        for (int i = 1; i < PLACES; i++) {
            if (rest > 0) {
                degree++;
            }
            rest /= FIELD;
        }
        return degree;
    }

    private static int valueAtNumber(int polynomial, int w) {
        int value = 0;
        int place = POLYNOMIALS;
        for (int i = 0; i < PLACES; i++) {
            place /= FIELD;
            value = (value * w + polynomial / place) % FIELD;
        }
        return value;
    }

    /** The monic greatest common divisor; 0 if both are 0. */
    private static int commonDivisor(int p, int q) {
        int large = p;
        int small = q;
        for (int i = 0; i < MOST_STEPS; i++) {
            // The larger number is never the one of the lower degree.
            if (large < small) {
                int swapped = large;
                large = small;
                small = swapped;
            }
            if (small == 0) {
                break;
            }
            int largeTop = topPlace(large);
            int smallTop = topPlace(small);
            int cancelling = (FIELD - large / largeTop) * reciprocal(small / smallTop) % FIELD;
            large = plusMultiple(large, cancelling, small * (largeTop / smallTop));
        }
        int leading = large / topPlace(large);
        int scale = reciprocal(leading);
        return plusMultiple(0, scale, large);
    }

    /** p / q for a monic q that divides p. */
    private static int quotient(int p, int q) {
        int rest = p;
        int result = 0;
        int top = topPlace(q);
        for (int i = 0; i < PLACES; i++) {
            int restTop = topPlace(rest);
            if (rest == 0 || restTop < top) {
                break;
            }
            int leading = rest / restTop;
            int shift = restTop / top;
            result += leading * shift;
            rest = plusMultiple(rest, FIELD - leading, q * shift);
        }
        return result;
    }
}
