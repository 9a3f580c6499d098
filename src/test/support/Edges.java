/** Ids and sizes next to the ends of the document's ranges, and far beyond them. */
final class Edges {
    /** The nearest first; then ids that would be a real one if only their low bits were looked at. */
    static final int[] OUTSIDE_IDS = {
        -1, 16, -2, 17, 18, -14, -15, -16, 31, 32, 257, 258, 65537, 65538, Integer.MIN_VALUE,
        Integer.MIN_VALUE + 1, Integer.MAX_VALUE
    };
    /** Every real id, and the others. */
    static final int[] ASKED_IDS =
            join(new int[] {0, 1, 2, 3, 4, 5, 6, 7, 8, 9, 10, 11, 12, 13, 14, 15}, OUTSIDE_IDS);
    static final int[] BAD_SIZES = {
        0, 256, -1, 257, -255, 511, 512, 65537, Integer.MIN_VALUE, Integer.MIN_VALUE + 1, Integer.MAX_VALUE
    };

    private Edges() {
    }

    static int[] join(int[]... rows) {
        return java.util.Arrays.stream(rows).flatMapToInt(java.util.Arrays::stream).toArray();
    }
}
