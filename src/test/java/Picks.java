/** A fixed row of numbers, so that every run of a test is the same. */
final class Picks {
    private long state;

    Picks(long start) {
        state = start;
    }

    /** One of low .. high. */
    int from(int low, int high) {
        state = state * 6364136223846793005L + 1442695040888963407L;
        return low + (int) ((state >>> 33) % (high - low + 1));
    }
}
