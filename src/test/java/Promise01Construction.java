/** Promise 1: construction. */
public final class Promise01Construction {
    private static final Due due = new Due("Promise01Construction");

    private static void linkRateIsClamped() {
        int[][] givenAndDue = {
            {16, 16}, {17, 17}, {5000, 5000}, {65535, 65535}, {65536, 65536},
            {15, 16}, {0, 16}, {-1, 16}, {Integer.MIN_VALUE, 16},
            {65537, 65536}, {Integer.MAX_VALUE, 65536}
        };
        for (int[] row : givenAndDue) {
            HierShaper x = new HierShaper(row[0], 4, 1);
            due.is("tokens(0) at link rate " + row[0], x.tokens(0), row[1]);
            due.is("ctokens(0) at link rate " + row[0], x.ctokens(0), row[1]);
        }
    }

    private static void depthIsClamped() {
        int[][] givenAndDue = {
            {1, 1}, {2, 2}, {15, 15}, {16, 16}, {0, 1}, {-1, 1}, {Integer.MIN_VALUE, 1},
            {17, 16}, {Integer.MAX_VALUE, 16}
        };
        for (int[] row : givenAndDue) {
            HierShaper x = new HierShaper(1000, 4, row[0]);
            x.addInner(1, 10, 20);
            x.addLeaf(2, 1, 3, 5);
            due.is("tokens(0) at depth " + row[0], x.tokens(0), 1000L * row[1]);
            due.is("tokens(1) at depth " + row[0], x.tokens(1), 10L * row[1]);
            due.is("ctokens(1) at depth " + row[0], x.ctokens(1), 20L * row[1]);
            due.is("tokens(2) at depth " + row[0], x.tokens(2), 3L * row[1]);
            due.is("ctokens(2) at depth " + row[0], x.ctokens(2), 5L * row[1]);
            x.run(1);
            due.is("tokens(0) at depth " + row[0] + " after a tick", x.tokens(0), 1000L * row[1]);
        }
    }

    private static void queueLimitIsClamped() {
        int[][] givenAndDue = {
            {1, 1}, {2, 2}, {5, 5}, {7, 7}, {8, 8}, {0, 1}, {-1, 1}, {Integer.MIN_VALUE, 1},
            {9, 8}, {Integer.MAX_VALUE, 8}
        };
        for (int[] row : givenAndDue) {
            HierShaper x = new HierShaper(1000, row[0], 1);
            x.addInner(1, 10, 20);
            x.addLeaf(2, 1, 3, 5);
            for (int i = 1; i <= 10; i++) {
                int want = i <= row[1] ? HierShaper.OK : HierShaper.DROPPED;
                due.is("packet " + i + " at queue limit " + row[0], x.enqueue(2, 7), want);
            }
            due.is("queueLength(2) at queue limit " + row[0], x.queueLength(2), row[1]);
        }
    }

    private static void onlyTheRootExists() {
        HierShaper x = new HierShaper(256, 4, 2);
        due.is("kind(0)", x.kind(0), HierShaper.KIND_ROOT);
        due.is("colour(0)", x.colour(0), HierShaper.GREEN);
        due.is("tokens(0)", x.tokens(0), 512);
        due.is("sentBytes(0)", x.sentBytes(0), 0);
        due.is("sendCount()", x.sendCount(), 0);
        for (int id = -20; id <= 40; id++) {
            if (id != 0) {
                due.is("kind(" + id + ")", x.kind(id), HierShaper.KIND_NONE);
            }
        }
        for (int k = -2; k <= 66; k++) {
            due.is("logEntry(" + k + ")", x.logEntry(k), -1);
        }
        due.is("run(1) on a new object", x.run(1), 0);
        due.is("run(64) on a new object", x.run(64), 0);
    }

    /** With leaves 1 and 15 in a group, 1 is the first only if the scan starts at 1. */
    private static void everyPointerStartsAtOne() {
        for (int level = 0; level <= 2; level++) {
            for (int priority = 0; priority <= 3; priority++) {
                HierShaper x = new HierShaper(65536, 8, 16);
                x.addInner(2, level == 2 ? 1 : 65536, 65536);
                for (int leaf = 1; leaf <= 15; leaf += 14) {
                    x.addLeaf(leaf, 2, level == 0 ? 65536 : 1, 65536);
                    x.setLeafSched(leaf, priority, 256);
                    Sends.offer(x, leaf, 255, 200);
                }
                x.run(1);
                String borrowed = "1@" + level + ":200 15@" + level + ":200";
                due.reads("the sends of level " + level + ", priority " + priority, Sends.last(x, 4),
                        "1@0:255 15@0:255 " + borrowed);
            }
        }
    }

    private static void objectsAreApart() {
        HierShaper x = new HierShaper(256, 4, 2);
        HierShaper y = new HierShaper(256, 4, 2);
        long[] before = View.of(y);
        x.addInner(1, 96, 192);
        x.addLeaf(2, 1, 96, 192);
        x.enqueue(2, 10);
        x.run(1);
        due.sameView("a second object", View.of(y), before);
    }

    public static void main(String[] args) {
        linkRateIsClamped();
        depthIsClamped();
        queueLimitIsClamped();
        onlyTheRootExists();
        everyPointerStartsAtOne();
        objectsAreApart();
        due.end();
    }
}
