/**
 * Numbers that are not good: the first on either side, the least and the greatest int, and some that
 * a shift, a byte, a short or a mask would take for a good one.
 */
final class Bad {
    static final int[] STREETS = beyond(16, 32, 48, 64, 256, 272);
    static final int[] CROSSINGS = beyond(11, 32, 33, 43, 64, 256, 267);
    /** Capacities, and also the seeds and the bends of sow. */
    static final int[] CAPACITIES = beyond(20, 32, 41, 42, 64, 256, 276);
    static final int[] AMOUNTS = beyond(100, 128, 200, 256, 356);
    static final int[] CUTS = beyond(4095, 4097, 6143, 8191, 8193);

    private Bad() {
    }

    private static int[] beyond(int last, int... others) {
        int[] edges = {-1, last + 1, Integer.MIN_VALUE, Integer.MAX_VALUE,
            -2, -31, -32, -256, -65535, -65536, 65536, 65537, 65536 + last,
            Integer.MIN_VALUE + 1, Integer.MIN_VALUE + last, Integer.MAX_VALUE - 1};
        int[] all = java.util.Arrays.copyOf(edges, edges.length + others.length);
        System.arraycopy(others, 0, all, edges.length, others.length);
        return all;
    }
}
