/** Desks with known contents, for tests that write down each answer themselves. */
final class Desks {
    static final int LEAST = Integer.MIN_VALUE;
    static final int MOST = Integer.MAX_VALUE;

    // Sixteen times one of the large ones is a small number again, by Java's wrap-around.
    static final int[] NO_REGISTER =
        {-1, 4, 5, 7, -4, 1 << 28, (1 << 28) + 1, 1 << 30, LEAST + 2, LEAST, MOST};

    private final Check check;

    Desks(Check check) {
        this.check = check;
    }

    /** A desk whose register 0 begins with these entries, the others being 0. */
    SimilarityDesk with(int size, int... entries) {
        SimilarityDesk desk = new SimilarityDesk(size);
        fill(desk, 0, entries);
        return desk;
    }

    void fill(SimilarityDesk desk, int r, int... entries) {
        for (int at = 0; at < entries.length; at++) {
            check.due("set(" + r + ", " + at + ", " + entries[at] + ")", true,
                    desk.set(r, at, entries[at]));
        }
    }

    void holds(String after, SimilarityDesk desk, int r, int... entries) {
        for (int at = 0; at < entries.length; at++) {
            check.due(after + ": get(" + r + ", " + at + ")", entries[at], desk.get(r, at));
        }
        check.due(after + ": get behind the last entry", -1, desk.get(r, entries.length));
    }

    /** No entry is 0, and no two registers have the same entry in the same place. */
    static int fullEntry(int r, int at) {
        return 1 + (r + at + at / 3) % 4;
    }

    static int[] fullEntries(int size, int r) {
        int[] entries = new int[size * size];
        for (int at = 0; at < entries.length; at++) {
            entries[at] = fullEntry(r, at);
        }
        return entries;
    }

    SimilarityDesk full(int size) {
        SimilarityDesk desk = used(size);
        for (int r = 0; r < 4; r++) {
            fill(desk, r, fullEntries(size, r));
        }
        return desk;
    }

    /**
     * Earlier calls have left something that is not 0 wherever the class works things out: a
     * number right outside its range, if it were taken, would find that.
     */
    private SimilarityDesk used(int size) {
        SimilarityDesk desk = with(size, scalar(size, 2));
        check.due("power(1, 0, 1)", true, desk.power(1, 0, 1));
        check.due("similar(0, 1)", true, desk.similar(0, 1));
        return desk;
    }

    /** Every entry of a full desk's registers is as it was, but for register changed (-1: none). */
    void stillFull(String after, SimilarityDesk desk, int size, int changed) {
        for (int r = 0; r < 4; r++) {
            if (r != changed) {
                holds(after, desk, r, fullEntries(size, r));
            }
        }
    }

    static int[] scalar(int size, int value) {
        int[] entries = new int[size * size];
        for (int i = 0; i < size; i++) {
            entries[size * i + i] = value;
        }
        return entries;
    }

    /** The value along the diagonal, and 1 right above it; the rest is 0. */
    static int[] steps(int size, int value) {
        int[] entries = scalar(size, value);
        for (int i = 1; i < size; i++) {
            entries[size * (i - 1) + i] = 1;
        }
        return entries;
    }

    /** The companion of x^size + ..., given what its last column holds from the top. */
    static int[] companion(int... lastColumn) {
        int size = lastColumn.length;
        int[] entries = new int[size * size];
        for (int i = 0; i < size; i++) {
            if (i > 0) {
                entries[size * i + i - 1] = 1;
            }
            entries[size * i + size - 1] = lastColumn[i];
        }
        return entries;
    }

    static int[] same(int length, int value) {
        int[] entries = new int[length];
        java.util.Arrays.fill(entries, value);
        return entries;
    }
}
