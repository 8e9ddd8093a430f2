/** A fixed row of numbers that looks unordered, the same in every run of the tests. */
final class Numbers {
    private long state;

    Numbers(long start) {
        state = start * 2 + 1;
    }

    /** A number from 0 to bound - 1. */
    int below(int bound) {
        state = state * 6364136223846793005L + 1442695040888963407L;
        return (int) ((state >>> 33) % bound);
    }

    int pick(int... from) {
        return from[below(from.length)];
    }
}
