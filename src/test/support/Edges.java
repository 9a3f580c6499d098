/** Ids, sizes and rates at the ends of the document's ranges, next to them and far beyond. */
final class Edges {
    /** The nearest first; then ids that would be a real one if only their low bits were looked at. */
    static final int[] OUTSIDE_IDS = {
        -1, 16, -2, 17, 18, -14, -15, -16, 31, 32, 257, 258, 65537, 65538, Integer.MIN_VALUE,
        Integer.MIN_VALUE + 1, Integer.MAX_VALUE
    };
    /** Every real id, and the others. */
    static final int[] ASKED_IDS =
            join(new int[] {0, 1, 2, 3, 4, 5, 6, 7, 8, 9, 10, 11, 12, 13, 14, 15}, OUTSIDE_IDS);
    static final int[] BAD_SIZES = {
        0, 256, -1, 257, -255, 511, 512, 65537, Integer.MIN_VALUE, Integer.MIN_VALUE + 1, Integer.MAX_VALUE
    };
    /** A rate as it is given, and clamped. */
    static final int[][] RATES = {
        {1, 1}, {2, 2}, {300, 300}, {65535, 65535}, {65536, 65536},
        {0, 1}, {-1, 1}, {-65536, 1}, {Integer.MIN_VALUE, 1},
        {65537, 65536}, {131073, 65536}, {Integer.MAX_VALUE, 65536}
    };
    /** A rate and a ceil as they are given, and clamped: the ceil by the clamped rate. */
    static final int[][] CEILS = {
        {100, 100, 100, 100}, {100, 101, 100, 101}, {100, 65535, 100, 65535}, {100, 65536, 100, 65536},
        {100, 99, 100, 100}, {100, 1, 100, 100}, {100, 0, 100, 100}, {100, -1, 100, 100},
        {100, Integer.MIN_VALUE, 100, 100}, {100, 65537, 100, 65536}, {100, Integer.MAX_VALUE, 100, 65536},
        {1, 1, 1, 1}, {1, 0, 1, 1}, {1, 2, 1, 2},
        {65536, 65535, 65536, 65536}, {65536, 65536, 65536, 65536}, {65536, 65537, 65536, 65536},
        {0, 0, 1, 1}, {-5, -9, 1, 1}, {-9, -5, 1, 1}, {0, 5, 1, 5}, {Integer.MIN_VALUE, Integer.MIN_VALUE, 1, 1},
        {65537, 5, 65536, 65536}, {65538, 65537, 65536, 65536},
        {Integer.MAX_VALUE, Integer.MIN_VALUE, 65536, 65536}, {Integer.MAX_VALUE, Integer.MAX_VALUE, 65536, 65536}
    };
    /** Likewise, so low that a single packet leaves room for many refills. */
    static final int[][] LOW_RATES = {{1, 1, 1, 1}, {0, 0, 1, 1}, {-7, 3, 1, 3}, {2, 1, 2, 2}, {2, 3, 2, 3}};

    private Edges() {
    }

    static int[] join(int[]... rows) {
        return java.util.Arrays.stream(rows).flatMapToInt(java.util.Arrays::stream).toArray();
    }
}
