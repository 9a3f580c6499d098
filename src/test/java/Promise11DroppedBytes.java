/** Promise 11: bytes dropped. Above each test stand the words of the document it holds the program to. */
public final class Promise11DroppedBytes {
    private static final Due due = new Due("Promise11DroppedBytes");

    /** "the total bytes of packets answered `DROPPED` for leaf id": of that leaf alone. */
    private static void dropsAddUpByLeaf() {
        HierShaper x = Shapers.wideWithLimit(1, 2, 15);
        due.is("droppedBytes(2) of a new leaf", x.droppedBytes(2), 0);
        Sends.offer(x, 2, 100, 1, 255);
        Sends.offer(x, 15, 100, 33);
        due.is("droppedBytes(2)", x.droppedBytes(2), 256);
        due.is("droppedBytes(15)", x.droppedBytes(15), 33);
    }

    /** Packets that are taken, of a bad size, or sent do not count. */
    private static void nothingElseCounts() {
        HierShaper x = Shapers.wideWithLimit(1, 2);
        Sends.offer(x, 2, 100);
        due.is("droppedBytes(2) after a packet that was taken", x.droppedBytes(2), 0);
        Sends.offer(x, 2, Edges.BAD_SIZES);
        due.is("droppedBytes(2) after bad sizes", x.droppedBytes(2), 0);
        Sends.offer(x, 2, 255);
        due.is("droppedBytes(2) after a drop", x.droppedBytes(2), 255);
        x.run(5);
        due.is("droppedBytes(2) after sending", x.droppedBytes(2), 255);
        Sends.offer(x, 2, 50, 1);
        due.is("droppedBytes(2) after one more drop", x.droppedBytes(2), 256);
    }

    /** "Answers 0 if id is not an existing leaf." */
    private static void othersDropNothing() {
        HierShaper x = Family.starved();
        for (int leaf : Family.LEAVES) {
            long before = x.droppedBytes(leaf);
            Sends.offer(x, leaf, 77);
            due.is("droppedBytes(" + leaf + ")", x.droppedBytes(leaf), before + 77);
        }
        for (int id : Family.NOT_LEAVES) {
            due.is("droppedBytes(" + id + ")", x.droppedBytes(id), 0);
        }
    }

    /** Offers to what is no leaf yet are refused, so they are no drops of the leaf that comes later. */
    private static void refusedOffersAreNoDrops() {
        HierShaper x = Shapers.wideWithLimit(1, 2);
        Sends.offer(x, 15, 10, 20, 30);
        x.addLeaf(15, 1, 65536, 65536);
        due.is("droppedBytes(15)", x.droppedBytes(15), 0);
        due.is("enqueue(15, 1)", x.enqueue(15, 1), HierShaper.OK);
    }

    /** More bytes than an int can count. */
    private static void countsAreLongs() {
        HierShaper x = Shapers.wideWithLimit(1, 2, 15);
        x.enqueue(2, 1);
        long want = 0;
        while (want <= Integer.MAX_VALUE) {
            x.enqueue(2, 255);
            want += 255;
        }
        due.is("droppedBytes(2)", x.droppedBytes(2), want);
    }

    /** "It changes nothing." */
    private static void askingChangesNothing() {
        Twins.unchangedBy(due, "droppedBytes", x -> {
            for (int id : Edges.ASKED_IDS) {
                x.droppedBytes(id);
            }
        });
    }

    public static void main(String[] args) {
        dropsAddUpByLeaf();
        nothingElseCounts();
        othersDropNothing();
        refusedOffersAreNoDrops();
        countsAreLongs();
        askingChangesNothing();
        due.end();
    }
}
