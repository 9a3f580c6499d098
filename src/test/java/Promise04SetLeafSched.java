/** Promise 4: setting a leaf's priority and quantum. */
public final class Promise04SetLeafSched {
    private static final Due due = new Due("Promise04SetLeafSched");

    private static void quantumIsClamped() {
        int[][] givenAndDue = {
            {256, 256}, {257, 257}, {1000, 1000}, {2047, 2047}, {2048, 2048},
            {255, 256}, {0, 256}, {-1, 256}, {Integer.MIN_VALUE, 256},
            {2049, 2048}, {Integer.MAX_VALUE, 2048}
        };
        for (int[] row : givenAndDue) {
            HierShaper x = Shapers.wide(2);
            due.is("setLeafSched(2, 0, " + row[0] + ")", x.setLeafSched(2, 0, row[0]), HierShaper.OK);
            Sends.offer(x, 2, 100);
            x.run(1);
            due.is("deficit(2, 0) at quantum " + row[0], x.deficit(2, 0), row[1] - 100);
        }
    }

    /**
     * Leaves 3 to 6 hold the four priorities. Leaf 2 is served right before the one that shares its own,
     * and leaf 7 right after it.
     */
    private static void priorityIsClamped() {
        int[][] givenAndDue = {
            {0, 0}, {1, 1}, {2, 2}, {3, 3}, {-1, 0}, {Integer.MIN_VALUE, 0},
            {4, 3}, {5, 3}, {Integer.MAX_VALUE, 3}
        };
        String[] order = {"2 3 7 4 5 6", "3 2 4 7 5 6", "3 4 2 5 7 6", "3 4 5 2 6 7"};
        for (int[] row : givenAndDue) {
            HierShaper x = Shapers.wide(2, 3, 4, 5, 6, 7);
            for (int leaf = 3; leaf <= 6; leaf++) {
                due.is("setLeafSched(" + leaf + ", ..)", x.setLeafSched(leaf, leaf - 3, 256), HierShaper.OK);
            }
            due.is("setLeafSched(2, " + row[0] + ", 256)", x.setLeafSched(2, row[0], 256), HierShaper.OK);
            due.is("setLeafSched(7, " + row[0] + ", 256)", x.setLeafSched(7, row[0], 256), HierShaper.OK);
            for (int leaf = 7; leaf >= 2; leaf--) {
                Sends.offer(x, leaf, 100);
            }
            x.run(1);
            due.reads("the sends at priority " + row[0], Sends.lastLeaves(x, 6), order[row[1]]);
        }
    }

    private static void refusedCallsChangeNothing() {
        HierShaper x = Shapers.busy();
        long[] before = View.of(x);
        int[] notLeaves = {0, 1, 7, 3, 14, 16, 17, -1, -2, Integer.MIN_VALUE, Integer.MAX_VALUE};
        for (int id : notLeaves) {
            String call = "setLeafSched(" + id + ", 2, 512)";
            due.is(call, x.setLeafSched(id, 2, 512), HierShaper.NOT_LEAF);
            due.sameView("after " + call, View.of(x), before);
        }
        HierShaper untouched = Shapers.busy();
        due.is("run(5) after refused calls", x.run(5), untouched.run(5));
        due.sameView("5 ticks after refused calls", View.of(x), View.of(untouched));
    }

    /** An id that was refused before it was a leaf starts with the priority and quantum of a new leaf. */
    private static void aRefusedCallLeavesNoTrace() {
        HierShaper x = Shapers.wide(9);
        due.is("setLeafSched(2, 3, 2048)", x.setLeafSched(2, 3, 2048), HierShaper.NOT_LEAF);
        x.addLeaf(2, 1, 65536, 65536);
        x.setLeafSched(9, 1, 256);
        Sends.offer(x, 9, 100);
        Sends.offer(x, 2, 100);
        x.run(1);
        due.reads("the sends", Sends.lastLeaves(x, 2), "2 9");
        due.is("deficit(2, 0)", x.deficit(2, 0), 156);
    }

    private static void nothingElseChanges() {
        HierShaper x = Shapers.busy();
        long[] before = View.of(x);
        due.is("setLeafSched(2, 3, 2048)", x.setLeafSched(2, 3, 2048), HierShaper.OK);
        due.sameView("after setLeafSched(2, 3, 2048)", View.of(x), before);
        due.is("setLeafSched(15, -9, 9999)", x.setLeafSched(15, -9, 9999), HierShaper.OK);
        due.sameView("after setLeafSched(15, -9, 9999)", View.of(x), before);
    }

    /** The deficit of the old quantum is spent before the new quantum is added. */
    private static void deficitOutlivesTheQuantum() {
        HierShaper x = Shapers.wide(2);
        Sends.offer(x, 2, 100);
        x.run(1);
        x.setLeafSched(2, 0, 1000);
        due.is("deficit(2, 0) after the change", x.deficit(2, 0), 156);
        Sends.offer(x, 2, 156);
        x.run(1);
        due.is("deficit(2, 0), just spent", x.deficit(2, 0), 0);
        Sends.offer(x, 2, 1);
        x.run(1);
        due.is("deficit(2, 0) with the new quantum", x.deficit(2, 0), 999);
        x.setLeafSched(2, 0, 256);
        due.is("deficit(2, 0) stays above a smaller quantum", x.deficit(2, 0), 999);
    }

    /** Each priority has a pointer of its own, and a leaf that changes priority moves none of them. */
    private static void pointersAreKept() {
        HierShaper x = Shapers.wide(3, 4);
        Sends.offer(x, 3, 200);
        x.run(1);
        x.setLeafSched(3, 1, 256);
        x.setLeafSched(4, 1, 256);
        Sends.offer(x, 3, 200);
        Sends.offer(x, 4, 200);
        x.run(1);
        due.reads("the sends at priority 1", Sends.lastLeaves(x, 2), "3 4");
        x.setLeafSched(3, 0, 256);
        x.setLeafSched(4, 0, 256);
        Sends.offer(x, 3, 200);
        Sends.offer(x, 4, 200);
        x.run(1);
        due.reads("the sends back at priority 0", Sends.lastLeaves(x, 2), "4 3");
    }

    public static void main(String[] args) {
        quantumIsClamped();
        priorityIsClamped();
        refusedCallsChangeNothing();
        aRefusedCallLeavesNoTrace();
        nothingElseChanges();
        deficitOutlivesTheQuantum();
        pointersAreKept();
        due.end();
    }
}
