/** All that a shaper shows to the outside at one moment, as a row of numbers. */
final class View {
    /** The classes 0..15 stand first, each at the place of its id. */
    private static final int[] IDS = {
        0, 1, 2, 3, 4, 5, 6, 7, 8, 9, 10, 11, 12, 13, 14, 15,
        16, 17, 31, 32, -1, -2, -16, Integer.MAX_VALUE, Integer.MIN_VALUE
    };
    /** The real levels 0..2 stand first, each at its own place. */
    private static final int[] LEVELS = {0, 1, 2, 3, 4, -1, -2, Integer.MAX_VALUE, Integer.MIN_VALUE};
    private static final int[] FAR_LOG_PLACES = {
        64, 65, 127, 128, -1, -2, -64, Integer.MAX_VALUE, Integer.MIN_VALUE
    };
    private static final String[] ASKED = {
        "kind", "colour", "tokens", "ctokens", "sentBytes", "droppedBytes", "queueLength", "queuedBytes"
    };
    private static final int PER_ID = ASKED.length + LEVELS.length;
    static final int SEND_COUNT_PLACE = IDS.length * PER_ID;
    private static final int LOG_START = SEND_COUNT_PLACE + 1;
    private static final int LENGTH = LOG_START + HierShaper.LOG_CAPACITY + FAR_LOG_PLACES.length;

    private View() {
    }

    static long[] of(HierShaper x) {
        return of(new Program(x));
    }

    static long[] of(Shaper x) {
        long[] view = new long[LENGTH];
        int at = 0;
        for (int id : IDS) {
            view[at++] = x.kind(id);
            view[at++] = x.colour(id);
            view[at++] = x.tokens(id);
            view[at++] = x.ctokens(id);
            view[at++] = x.sentBytes(id);
            view[at++] = x.droppedBytes(id);
            view[at++] = x.queueLength(id);
            view[at++] = x.queuedBytes(id);
            for (int level : LEVELS) {
                view[at++] = x.deficit(id, level);
            }
        }
        view[at++] = x.sendCount();
        for (int k = 0; k < HierShaper.LOG_CAPACITY; k++) {
            view[at++] = x.logEntry(k);
        }
        for (int k : FAR_LOG_PLACES) {
            view[at++] = x.logEntry(k);
        }
        return view;
    }

    /** Where in a view the answer to one question about a class 0..15 stands. */
    static int placeOf(String asked, int id) {
        return id * PER_ID + java.util.List.of(ASKED).indexOf(asked);
    }

    static int deficitPlace(int id, int level) {
        return id * PER_ID + ASKED.length + level;
    }

    /** A view without anything that is asked of a class 0..15. */
    static long[] without(int id, long[] view) {
        long[] rest = view.clone();
        java.util.Arrays.fill(rest, id * PER_ID, (id + 1) * PER_ID, 0);
        return rest;
    }

    static String nameOf(int place) {
        if (place == SEND_COUNT_PLACE) {
            return "sendCount()";
        }
        if (place >= LOG_START) {
            int k = place - LOG_START;
            boolean near = k < HierShaper.LOG_CAPACITY;
            return "logEntry(" + (near ? k : FAR_LOG_PLACES[k - HierShaper.LOG_CAPACITY]) + ")";
        }
        int id = IDS[place / PER_ID];
        int asked = place % PER_ID;
        if (asked < ASKED.length) {
            return ASKED[asked] + "(" + id + ")";
        }
        return "deficit(" + id + ", " + LEVELS[asked - ASKED.length] + ")";
    }
}
