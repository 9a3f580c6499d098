/** The facts of promise 6 that hold at every point: the ceiling and the conservation of bytes. */
final class Facts {
    private final Due due;
    private final Shaper x;
    private final long depth;
    private final long[] ceil = new long[16];
    private final long[] ticks = new long[16];
    private final int[] parent = new int[16];
    private final long[] offered = new long[16];
    private final long[] dropped = new long[16];

    Facts(Due due, Shaper x, int linkRate, int depth) {
        this.due = due;
        this.x = x;
        this.depth = Math.max(1, Math.min(16, depth));
        ceil[0] = Math.max(16, Math.min(65536, linkRate));
    }

    void added(int id, int rate, int ceiling, int answer) {
        if (answer == HierShaper.OK) {
            long clampedRate = Math.max(1, Math.min(65536, rate));
            ceil[id] = Math.max(clampedRate, Math.min(65536, ceiling));
        }
    }

    void parent(int id, int parentId, int answer) {
        if (answer == HierShaper.OK) {
            parent[id] = parentId;
        }
    }

    void offered(int id, int size, int answer) {
        if (answer == HierShaper.OK || answer == HierShaper.DROPPED) {
            offered[id] += size;
        }
        if (answer == HierShaper.DROPPED) {
            dropped[id] += size;
        }
    }

    void ran(int asked) {
        for (int id = 0; id < 16; id++) {
            if (x.kind(id) != HierShaper.KIND_NONE) {
                ticks[id] += Math.max(0, Math.min(64, asked));
            }
        }
    }

    void check(String when) {
        long[] below = new long[16];
        for (int id = 1; id < 16; id++) {
            if (x.kind(id) == HierShaper.KIND_LEAF) {
                long kept = x.sentBytes(id) + x.droppedBytes(id) + x.queuedBytes(id);
                due.is(when + ": sent, dropped and queued bytes of leaf " + id, kept, offered[id]);
                due.is(when + ": droppedBytes(" + id + ")", x.droppedBytes(id), dropped[id]);
                below[parent[id]] += x.sentBytes(id);
                below[0] += x.sentBytes(id);
            }
        }
        for (int id = 0; id < 16; id++) {
            if (x.kind(id) == HierShaper.KIND_ROOT || x.kind(id) == HierShaper.KIND_INNER) {
                due.is(when + ": sentBytes(" + id + ")", x.sentBytes(id), below[id]);
            }
            if (x.kind(id) != HierShaper.KIND_NONE) {
                checkCeiling(when, id);
            }
        }
    }

    private void checkCeiling(String when, int id) {
        due.holds(when + ": ctokens(" + id + ") is -4080 or more", x.ctokens(id) >= -4080);
        due.holds(when + ": class " + id + " keeps its ceiling",
                16 * x.sentBytes(id) <= ceil[id] * (depth + ticks[id]) + 4080);
    }
}
