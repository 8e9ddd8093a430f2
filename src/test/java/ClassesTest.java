import java.util.ArrayList;
import java.util.List;

/**
 * Promises 5 to 17 on a matrix of every kind: each list of invariant factors for 1 to 4 rows,
 * hidden behind a change of base; and on every matrix of 1 or 2 rows.
 */
public final class ClassesTest {
    private static final Check CHECK = new Check("ClassesTest");
    private static final Numbers NUMBERS = new Numbers(2026);

    private ClassesTest() {
    }

    public static void main(String[] args) {
        int[] classes = {5, 30, 155, 805};
        for (int n = 1; n <= 4; n++) {
            List<int[]> lists = new ArrayList<>();
            collect(new int[0], n, lists);
            CHECK.due("the number of kinds of " + n + " rows", classes[n - 1], lists.size());
            int[] before = lists.get(lists.size() - 1);
            for (int[] list : lists) {
                tryKind(n, list, before);
                before = list;
            }
        }
        tryEverySmallMatrix();
        CHECK.end();
    }

    /** All lists that go on from one, with so many degrees left, each factor dividing the next. */
    private static void collect(int[] list, int left, List<int[]> lists) {
        if (left == 0) {
            lists.add(list);
        }
        for (int degree = 1; degree <= left; degree++) {
            for (int p : Polynomials.monics(degree)) {
                if (list.length == 0 || Polynomials.divides(list[list.length - 1], p)) {
                    int[] longer = java.util.Arrays.copyOf(list, list.length + 1);
                    longer[list.length] = p;
                    collect(longer, left - degree, lists);
                }
            }
        }
    }

    private static void tryKind(int n, int[] list, int[] otherList) {
        int[][] normal = Matrices.companions(list, n);
        int[][] matrix = hidden(normal);
        String name = "kind " + java.util.Arrays.toString(list);
        SimilarityDesk desk = new SimilarityDesk(n);
        for (int at = 0; at < n * n; at++) {
            desk.set(0, at, matrix[at / n][at % n]);
        }
        int whole = 1;
        for (int k = 0; k < list.length; k++) {
            CHECK.due(name + " invariant " + k, list[k], desk.invariant(0, k));
            whole = Polynomials.product(whole, list[k]);
        }
        CHECK.due(name + " invariant behind the last", -2, desk.invariant(0, list.length));
        CHECK.due(name + " minimal", list[list.length - 1], desk.minimal(0));
        CHECK.due(name + " characteristic", whole, desk.characteristic(0));
        CHECK.due(name + " normal", true, desk.normal(1, 0));
        for (int at = 0; at < n * n; at++) {
            CHECK.due(name + " normal at " + at, normal[at / n][at % n], desk.get(1, at));
        }
        compareKind(n, matrix, hidden(normal), hidden(Matrices.companions(otherList, n)));
    }

    private static void compareKind(int n, int[][] matrix, int[][] alike, int[][] other) {
        Pair pair = new Pair(CHECK, "kind", n);
        pair.fill(0, matrix);
        pair.fill(1, alike);
        pair.fill(2, other);
        pair.askAll(0);
        pair.similar(0, 1);
        pair.similar(2, 0);
        pair.power(3, 0, NUMBERS.below(1_000_000_001));
        pair.look(3);
        pair.valueAt(3, 0, NUMBERS.below(3125));
        pair.look(3);
        pair.invert(3, 0);
        pair.look(3);
        pair.normal(3, 3);
        pair.lookAtAll();
    }

    private static int[][] hidden(int[][] matrix) {
        int[][] x = Matrices.invertible(NUMBERS, matrix.length);
        return Matrices.product(Matrices.product(Matrices.inverse(x), matrix), x);
    }

    private static void tryEverySmallMatrix() {
        for (int n = 1; n <= 2; n++) {
            for (int number = 0; number < Polynomials.place(n * n); number++) {
                Pair pair = new Pair(CHECK, "small", n);
                pair.fill(0, Matrices.numbered(number, n));
                pair.fill(1, Matrices.unordered(NUMBERS, n));
                pair.askAll(0);
                pair.similar(0, 1);
                pair.normal(2, 0);
                pair.invert(3, 0);
                pair.similar(0, 2);
                pair.lookAtAll();
            }
        }
    }
}
