import java.util.ArrayList;
import java.util.List;

/** Polynomials in the document's notation, by the plainest means. */
final class Polynomials {
    private Polynomials() {
    }

    /** 5 to a power. */
    static int place(int exponent) {
        int place = 1;
        for (int i = 0; i < exponent; i++) {
            place *= 5;
        }
        return place;
    }

    /** The m with 5^m = value. */
    static int exponent(int value) {
        int m = 0;
        while (place(m) < value) {
            m++;
        }
        if (place(m) != value) {
            throw new IllegalStateException(value + " is no power of 5");
        }
        return m;
    }

    static int coefficient(int p, int i) {
        return p / place(i) % 5;
    }

    static int degree(int p) {
        int degree = 0;
        while (p >= place(degree + 1)) {
            degree++;
        }
        return degree;
    }

    static int valueAt(int p, int w) {
        int sum = 0;
        int power = 1;
        for (int left = p; left > 0; left /= 5) {
            sum += left % 5 * power;
            power *= w;
        }
        return sum % 5;
    }

    static int product(int p, int q) {
        int result = 0;
        for (int i = 0; i <= degree(p) + degree(q); i++) {
            int sum = 0;
            for (int j = 0; j <= i; j++) {
                sum += coefficient(p, j) * coefficient(q, i - j);
            }
            result += sum % 5 * place(i);
        }
        return result;
    }

    static List<Integer> monics(int degree) {
        List<Integer> result = new ArrayList<>();
        for (int p = place(degree); p < 2 * place(degree); p++) {
            result.add(p);
        }
        return result;
    }

    /** Whether a monic p divides a monic q, by trying every monic cofactor. */
    static boolean divides(int p, int q) {
        int degree = degree(q) - degree(p);
        if (degree < 0) {
            return false;
        }
        for (int cofactor : monics(degree)) {
            if (product(p, cofactor) == q) {
                return true;
            }
        }
        return false;
    }

    private static final List<List<Integer>> IRREDUCIBLES = new ArrayList<>();

    /** The monic irreducible polynomials of degree 1 to most. */
    static List<Integer> irreducibles(int most) {
        while (IRREDUCIBLES.size() <= most) {
            List<Integer> result = new ArrayList<>();
            int degree = IRREDUCIBLES.size();
            if (degree > 0) {
                result.addAll(IRREDUCIBLES.get(degree - 1));
                List<Integer> lower = new ArrayList<>(result);
                for (int p : monics(degree)) {
                    if (lower.stream().noneMatch(q -> divides(q, p))) {
                        result.add(p);
                    }
                }
            }
            IRREDUCIBLES.add(result);
        }
        return IRREDUCIBLES.get(most);
    }
}
