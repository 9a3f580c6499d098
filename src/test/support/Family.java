/** One tree in several states, each made by the same calls every time, so that twins can be had. */
final class Family {
    static final int[] INNERS = {1, 7, 13};
    static final int[] LEAVES = {2, 3, 5, 8, 9, 14, 15};
    static final int[] MISSING = {4, 6, 10, 11, 12};
    /** All that is no leaf: the root, inner classes, missing classes and ids outside 0..15. */
    static final int[] NOT_LEAVES = Edges.join(new int[] {0}, INNERS, MISSING, Edges.OUTSIDE_IDS);
    static final int[] NO_CLASSES = Edges.join(MISSING, Edges.OUTSIDE_IDS);

    private static final int QUEUE_LIMIT = 3;
    private static final int MOST_TICKS = 300;

    private Family() {
    }

    /** Full buckets and no packet, but each leaf with a priority and a quantum of its own. */
    static HierShaper rested() {
        HierShaper x = new HierShaper(3000, QUEUE_LIMIT, 2);
        x.addInner(1, 1500, 3000);
        x.addInner(7, 40, 2500);
        x.addInner(13, 5, 9);
        x.addLeaf(2, 1, 500, 2000);
        x.addLeaf(3, 1, 1, 3000);
        x.addLeaf(5, 1, 30, 40);
        x.addLeaf(8, 7, 10, 2000);
        x.addLeaf(9, 7, 2000, 2500);
        x.addLeaf(14, 13, 3, 65536);
        x.addLeaf(15, 7, 1, 65536);
        for (int leaf : LEAVES) {
            setOwnSched(x, leaf);
        }
        return x;
    }

    /** The priority and quantum that a leaf has in every state. */
    static void setOwnSched(HierShaper x, int leaf) {
        x.setLeafSched(leaf, leaf % 4, 256 + 64 * leaf);
    }

    /** Every pointer moved, deficits left at all levels, more sends than the log holds, packets waiting. */
    static HierShaper worn() {
        HierShaper x = rested();
        for (int priority = 3; priority >= 0; priority--) {
            for (int leaf : LEAVES) {
                x.setLeafSched(leaf, priority, 256 + 100 * priority);
            }
            for (int round = 0; round < 8; round++) {
                for (int leaf : LEAVES) {
                    x.enqueue(leaf, 1 + (leaf * 37 + round * 91 + priority * 13) % 255);
                }
                x.run(3);
            }
        }
        x.run(8);
        for (int leaf : LEAVES) {
            setOwnSched(x, leaf);
            x.enqueue(leaf, 10 * leaf);
        }
        return x;
    }

    /** The root in debt, and every queue full. */
    static HierShaper starved() {
        HierShaper x = worn();
        for (int tick = 0; tick < MOST_TICKS && x.colour(0) != HierShaper.RED; tick++) {
            fillQueues(x);
            x.run(1);
        }
        fillQueues(x);
        return x;
    }

    private static void fillQueues(HierShaper x) {
        for (int leaf : LEAVES) {
            for (int left = QUEUE_LIMIT - x.queueLength(leaf); left > 0; left--) {
                x.enqueue(leaf, 200 + leaf + left);
            }
        }
    }
}
