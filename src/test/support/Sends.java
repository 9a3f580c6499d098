/** The newest sends of a shaper as text, the oldest of them first: leaf@level:size. */
final class Sends {
    private Sends() {
    }

    static String last(HierShaper x, int count) {
        StringBuilder text = new StringBuilder();
        for (int k = count - 1; k >= 0; k--) {
            int entry = x.logEntry(k);
            text.append(entry & 15).append('@').append(entry >> 4 & 3).append(':').append(entry >> 6);
            text.append(k == 0 ? "" : " ");
        }
        return text.toString();
    }

    /** The leaves alone, where sizes and levels are not the matter. */
    static String lastLeaves(HierShaper x, int count) {
        return last(x, count).replaceAll("@\\d:\\d+", "");
    }

    static void offer(HierShaper x, int id, int... sizes) {
        for (int size : sizes) {
            x.enqueue(id, size);
        }
    }

    static void offerMany(HierShaper x, int id, int count, int size) {
        for (int i = 0; i < count; i++) {
            x.enqueue(id, size);
        }
    }
}
