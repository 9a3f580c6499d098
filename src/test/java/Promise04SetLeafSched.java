/** Promise 4: setting a leaf's priority and quantum. Above each test stand the words it holds the program to. */
public final class Promise04SetLeafSched {
    private static final Due due = new Due("Promise04SetLeafSched");

    private static void refused(int id) {
        String call = "setLeafSched(" + id + ", 2, 512)";
        Twins.refused(due, call, HierShaper.NOT_LEAF, x -> x.setLeafSched(id, 2, 512));
    }

    /** "If id is not an existing leaf (this includes the root": `NOT_LEAF`, and nothing changes. */
    private static void theRootIsNoLeaf() {
        refused(0);
    }

    /** "inner classes" */
    private static void anInnerClassIsNoLeaf() {
        for (int id : Family.INNERS) {
            refused(id);
        }
    }

    /** "missing classes": nothing stays behind for a class that is added there later. */
    private static void aMissingClassIsNoLeaf() {
        for (int id : Family.MISSING) {
            refused(id);
        }
    }

    /** "and any id outside 0..15)" */
    private static void anIdOutsideIsNoLeaf() {
        for (int id : Edges.OUTSIDE_IDS) {
            refused(id);
        }
    }

    /** Leaves of every id of 1..15 are taken. */
    private static void everyLeafIsTaken() {
        for (int leaf = 1; leaf <= 15; leaf++) {
            HierShaper x = new HierShaper(65536, 8, 16);
            int inner = leaf % 15 + 1;
            x.addInner(inner, 65536, 65536);
            x.addLeaf(leaf, inner, 65536, 65536);
            due.is("setLeafSched(" + leaf + ", 1, 700)", x.setLeafSched(leaf, 1, 700), HierShaper.OK);
            Sends.offer(x, leaf, 100);
            x.run(1);
            due.is("deficit(" + leaf + ", 0)", x.deficit(leaf, 0), 600);
        }
    }

    /**
     * "prio is clamped into 0..3": leaves 3 to 6 hold the four priorities. Leaf 2 is served right before the
     * one that shares its own, and leaf 7 right after it.
     */
    private static void priorityIsClamped() {
        int[][] givenAndDue = {
            {0, 0}, {1, 1}, {2, 2}, {3, 3}, {-1, 0}, {-4, 0}, {Integer.MIN_VALUE, 0},
            {4, 3}, {5, 3}, {256, 3}, {Integer.MAX_VALUE, 3}
        };
        String[] order = {"2 3 7 4 5 6", "3 2 4 7 5 6", "3 4 2 5 7 6", "3 4 5 2 6 7"};
        for (int[] row : givenAndDue) {
            HierShaper x = Shapers.wide(2, 3, 4, 5, 6, 7);
            for (int leaf = 3; leaf <= 6; leaf++) {
                due.is("setLeafSched(" + leaf + ", ..)", x.setLeafSched(leaf, leaf - 3, 256), HierShaper.OK);
            }
            due.is("setLeafSched(2, " + row[0] + ", 256)", x.setLeafSched(2, row[0], 256), HierShaper.OK);
            due.is("setLeafSched(7, " + row[0] + ", 256)", x.setLeafSched(7, row[0], 256), HierShaper.OK);
            for (int leaf = 7; leaf >= 2; leaf--) {
                Sends.offer(x, leaf, 100);
            }
            x.run(1);
            due.reads("the sends at priority " + row[0], Sends.lastLeaves(x, 6), order[row[1]]);
        }
    }

    /** "quantum is clamped into 256..2048" */
    private static void quantumIsClamped() {
        int[][] givenAndDue = {
            {256, 256}, {257, 257}, {1000, 1000}, {2047, 2047}, {2048, 2048},
            {255, 256}, {1, 256}, {0, 256}, {-1, 256}, {-2048, 256}, {Integer.MIN_VALUE, 256},
            {2049, 2048}, {4096, 2048}, {65536, 2048}, {Integer.MAX_VALUE, 2048}
        };
        for (int[] row : givenAndDue) {
            HierShaper x = Shapers.wide(2);
            due.is("setLeafSched(2, 0, " + row[0] + ")", x.setLeafSched(2, 0, row[0]), HierShaper.OK);
            Sends.offer(x, 2, 100);
            x.run(1);
            due.is("deficit(2, 0) at quantum " + row[0], x.deficit(2, 0), row[1] - 100);
        }
    }

    /** "both replace the leaf's priority and quantum": of several calls the last one counts, up or down. */
    private static void theLastCallCounts() {
        HierShaper x = Shapers.wide(2, 3);
        x.setLeafSched(3, 1, 256);
        x.setLeafSched(2, 0, 2048);
        x.setLeafSched(2, 3, 300);
        x.setLeafSched(2, 2, 400);
        Sends.offer(x, 2, 100);
        Sends.offer(x, 3, 100);
        x.run(1);
        due.reads("the sends", Sends.lastLeaves(x, 2), "3 2");
        due.is("deficit(2, 0)", x.deficit(2, 0), 300);
        x.setLeafSched(2, 0, 256);
        Sends.offer(x, 2, 255, 255);
        Sends.offer(x, 3, 100);
        x.run(1);
        due.reads("the sends", Sends.lastLeaves(x, 3), "2 2 3");
        due.is("deficit(2, 0)", x.deficit(2, 0), 300 - 510 + 256);
    }

    /** "The queue, deficits, buckets and pointers are kept as they are, as are all counters, the log and sendCount." */
    private static void whatIsSeenIsKept() {
        for (int leaf : Family.LEAVES) {
            HierShaper x = Family.starved();
            long[] before = View.of(x);
            due.is("setLeafSched(" + leaf + ", 3, 2048)", x.setLeafSched(leaf, 3, 2048), HierShaper.OK);
            due.sameView("after setLeafSched(" + leaf + ", 3, 2048)", View.of(x), before);
            due.is("setLeafSched(" + leaf + ", -9, 9999)", x.setLeafSched(leaf, -9, 9999), HierShaper.OK);
            due.sameView("after setLeafSched(" + leaf + ", -9, 9999)", View.of(x), before);
        }
    }

    /** What is not seen is kept too: with the old values set again, all goes on as if nothing had been. */
    private static void whatIsNotSeenIsKept() {
        for (int leaf : Family.LEAVES) {
            for (int priority = 0; priority <= 3; priority++) {
                int other = priority;
                Twins.unchangedBy(due, "setLeafSched(" + leaf + ", ..) and back", x -> {
                    x.setLeafSched(leaf, other, 2000);
                    Family.setOwnSched(new Program(x), leaf);
                });
            }
        }
    }

    /** Only the leaf's own priority and quantum are new: all goes on as the document says, from every state. */
    private static void onlyTheLeafIsSet() {
        for (int leaf : Family.LEAVES) {
            for (int priority = 0; priority <= 3; priority++) {
                int prio = priority;
                Twins.alike(due, "setLeafSched(" + leaf + ", " + prio + ", 700)",
                        x -> x.setLeafSched(leaf, prio, 700));
            }
        }
    }

    /** The deficit of the old quantum is spent before the new quantum is added. */
    private static void theDeficitOutlivesTheQuantum() {
        HierShaper x = Shapers.wide(2);
        Sends.offer(x, 2, 100);
        x.run(1);
        x.setLeafSched(2, 0, 1000);
        due.is("deficit(2, 0) after the change", x.deficit(2, 0), 156);
        Sends.offer(x, 2, 156);
        x.run(1);
        due.is("deficit(2, 0), just spent", x.deficit(2, 0), 0);
        Sends.offer(x, 2, 1);
        x.run(1);
        due.is("deficit(2, 0) with the new quantum", x.deficit(2, 0), 999);
        x.setLeafSched(2, 0, 256);
        due.is("deficit(2, 0) stays above a smaller quantum", x.deficit(2, 0), 999);
    }

    /** Each priority has a pointer of its own, and a leaf that changes priority moves none of them. */
    private static void pointersAreKept() {
        HierShaper x = Shapers.wide(3, 4);
        Sends.offer(x, 3, 200);
        x.run(1);
        x.setLeafSched(3, 1, 256);
        x.setLeafSched(4, 1, 256);
        Sends.offer(x, 3, 200);
        Sends.offer(x, 4, 200);
        x.run(1);
        due.reads("the sends at priority 1", Sends.lastLeaves(x, 2), "3 4");
        x.setLeafSched(3, 0, 256);
        x.setLeafSched(4, 0, 256);
        Sends.offer(x, 3, 200);
        Sends.offer(x, 4, 200);
        x.run(1);
        due.reads("the sends back at priority 0", Sends.lastLeaves(x, 2), "4 3");
    }

    public static void main(String[] args) {
        theRootIsNoLeaf();
        anInnerClassIsNoLeaf();
        aMissingClassIsNoLeaf();
        anIdOutsideIsNoLeaf();
        everyLeafIsTaken();
        priorityIsClamped();
        quantumIsClamped();
        theLastCallCounts();
        whatIsSeenIsKept();
        whatIsNotSeenIsKept();
        onlyTheLeafIsSet();
        theDeficitOutlivesTheQuantum();
        pointersAreKept();
        due.end();
    }
}
