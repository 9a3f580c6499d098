/** Promise 1: construction. Above each test stand the words of the document that it holds the program to. */
public final class Promise01Construction {
    private static final Due due = new Due("Promise01Construction");

    private static final int[][] LINK_RATES = {
        {16, 16}, {17, 17}, {5000, 5000}, {65535, 65535}, {65536, 65536},
        {15, 16}, {1, 16}, {0, 16}, {-1, 16}, {-65536, 16}, {Integer.MIN_VALUE, 16},
        {65537, 65536}, {131072, 65536}, {Integer.MAX_VALUE, 65536}
    };

    /** "linkRate is clamped into 16..65536 (below 16 becomes 16; above 65536 becomes 65536)." */
    private static void linkRateIsClamped() {
        for (int[] row : LINK_RATES) {
            HierShaper x = new HierShaper(row[0], 4, 1);
            due.buckets("link rate " + row[0], x, 0, row[1], row[1]);
        }
    }

    /** "Here linkRate, depth, rate and ceil are always the clamped values": in the refill of the root too. */
    private static void theClampedLinkRateRefills() {
        for (int[] row : LINK_RATES) {
            HierShaper x = Shapers.loaded(row[0], 65536, 65536);
            x.run(1);
            long left = 16L * row[1] - 16 * x.sentBytes(0);
            due.buckets("link rate " + row[0] + ", sent", x, 0, left, left);
            long before = x.sentBytes(0);
            x.run(1);
            left += row[1] - 16 * (x.sentBytes(0) - before);
            due.buckets("link rate " + row[0] + ", a tick later", x, 0, left, left);
        }
    }

    /** "queueLimit is clamped into 1..8." */
    private static void queueLimitIsClamped() {
        int[][] givenAndDue = {
            {1, 1}, {2, 2}, {3, 3}, {4, 4}, {5, 5}, {6, 6}, {7, 7}, {8, 8},
            {0, 1}, {-1, 1}, {-8, 1}, {Integer.MIN_VALUE, 1}, {9, 8}, {16, 8}, {Integer.MAX_VALUE, 8}
        };
        for (int[] row : givenAndDue) {
            HierShaper x = Shapers.wideWithLimit(row[0], 2);
            for (int i = 1; i <= 10; i++) {
                int want = i <= row[1] ? HierShaper.OK : HierShaper.DROPPED;
                due.is("packet " + i + " at queue limit " + row[0], x.enqueue(2, 7), want);
            }
            due.is("queueLength(2) at queue limit " + row[0], x.queueLength(2), row[1]);
            due.is("run(1) at queue limit " + row[0], x.run(1), row[1]);
        }
    }

    private static final int[][] DEPTHS = {
        {1, 1}, {2, 2}, {8, 8}, {15, 15}, {16, 16}, {0, 1}, {-1, 1}, {-16, 1}, {Integer.MIN_VALUE, 1},
        {17, 16}, {32, 16}, {Integer.MAX_VALUE, 16}
    };

    /** "depth, the bucket depth in ticks, is clamped into 1..16": where the buckets start. */
    private static void depthIsClamped() {
        for (int[] row : DEPTHS) {
            String when = "depth " + row[0];
            HierShaper x = new HierShaper(1000, 4, row[0]);
            due.buckets(when, x, 0, 1000L * row[1], 1000L * row[1]);
            x.addInner(1, 10, 20);
            due.buckets(when, x, 1, 10L * row[1], 20L * row[1]);
            x.addLeaf(2, 1, 3, 5);
            due.buckets(when, x, 2, 3L * row[1], 5L * row[1]);
        }
    }

    /** The clamped depth is also where the refill ends. */
    private static void theClampedDepthEndsTheRefill() {
        for (int[] row : DEPTHS) {
            String when = "refilled at depth " + row[0];
            HierShaper x = new HierShaper(1000, 4, row[0]);
            x.addInner(1, 100, 200);
            x.addLeaf(2, 1, 30, 50);
            Sends.offer(x, 2, 10);
            x.run(1);
            x.run(64);
            due.buckets(when, x, 0, 1000L * row[1], 1000L * row[1]);
            due.buckets(when, x, 1, 100L * row[1], 200L * row[1]);
            due.buckets(when, x, 2, 30L * row[1], 50L * row[1]);
        }
    }

    /** "Afterwards only the root (id 0) exists, with B = linkRate*depth.": at the ends of both ranges. */
    private static void theRootIsFull() {
        long[][] rateDepthAndDue = {
            {16, 1, 16}, {16, 16, 256}, {65536, 1, 65536}, {65536, 16, 1048576},
            {15, 0, 16}, {15, 17, 256}, {65537, 0, 65536}, {65537, 17, 1048576}
        };
        for (long[] row : rateDepthAndDue) {
            HierShaper x = new HierShaper((int) row[0], 4, (int) row[1]);
            String when = "HierShaper(" + row[0] + ", 4, " + row[1] + ")";
            due.buckets(when, x, 0, row[2], row[2]);
            due.is(when + ": kind(0)", x.kind(0), HierShaper.KIND_ROOT);
            due.is(when + ": colour(0)", x.colour(0), HierShaper.GREEN);
            due.is(when + ": run(64)", x.run(64), 0);
            due.buckets(when + ", 64 ticks later", x, 0, row[2], row[2]);
        }
    }

    /** "The send log is empty, sendCount is 0" */
    private static void nothingWasSent() {
        HierShaper x = new HierShaper(256, 4, 2);
        due.is("sendCount()", x.sendCount(), 0);
        for (int k = -2; k <= 66; k++) {
            due.is("logEntry(" + k + ")", x.logEntry(k), -1);
        }
    }

    /**
     * "all twelve pointers P(v,p) are 1": of leaves 1 and 15, leaf 1 is the first only if the scan starts
     * at 1. All four packets of level 0 are sent before the first of a higher level.
     */
    private static void everyPointerStartsAtOne() {
        for (int level = 0; level <= 2; level++) {
            for (int priority = 0; priority <= 3; priority++) {
                HierShaper x = new HierShaper(65536, 8, 16);
                x.addInner(2, level == 2 ? 1 : 65536, 65536);
                for (int leaf = 1; leaf <= 15; leaf += 14) {
                    x.addLeaf(leaf, 2, level == 0 ? 65536 : 1, 65536);
                    x.setLeafSched(leaf, priority, 256);
                    Sends.offer(x, leaf, 255, 200);
                }
                x.run(1);
                String borrowed = "1@" + level + ":200 15@" + level + ":200";
                due.reads("the sends of level " + level + ", priority " + priority, Sends.last(x, 4),
                        "1@0:255 15@0:255 " + borrowed);
            }
        }
    }

    /** "The root's sentBytes is 0." */
    private static void theRootSentNothing() {
        HierShaper x = new HierShaper(256, 4, 2);
        due.is("sentBytes(0)", x.sentBytes(0), 0);
        x.run(64);
        due.is("sentBytes(0) after idle ticks", x.sentBytes(0), 0);
    }

    /** "so `kind` answers `KIND_NONE` for every id other than 0" */
    private static void noOtherClassExists() {
        HierShaper x = new HierShaper(256, 4, 2);
        for (int id = 1; id <= 15; id++) {
            due.is("kind(" + id + ")", x.kind(id), HierShaper.KIND_NONE);
            due.is("colour(" + id + ")", x.colour(id), HierShaper.NO_CLASS);
            due.is("enqueue(" + id + ", 1)", x.enqueue(id, 1), HierShaper.NOT_LEAF);
        }
        for (int id : Edges.OUTSIDE_IDS) {
            due.is("kind(" + id + ")", x.kind(id), HierShaper.KIND_NONE);
        }
    }

    private static void objectsAreApart() {
        HierShaper x = Family.rested();
        HierShaper y = new HierShaper(256, 4, 2);
        long[] before = View.of(y);
        x.enqueue(2, 10);
        x.run(1);
        due.sameView("a second object", View.of(y), before);
    }

    public static void main(String[] args) {
        linkRateIsClamped();
        theClampedLinkRateRefills();
        queueLimitIsClamped();
        depthIsClamped();
        theClampedDepthEndsTheRefill();
        theRootIsFull();
        nothingWasSent();
        everyPointerStartsAtOne();
        theRootSentNothing();
        noOtherClassExists();
        objectsAreApart();
        due.end();
    }
}
