/** Promise 5: offering a packet. Above each test stand the words of the document it holds the program to. */
public final class Promise05Enqueue {
    private static final Due due = new Due("Promise05Enqueue");

    private static void refused(int id, int size, int want) {
        Twins.refused(due, "enqueue(" + id + ", " + size + ")", want, x -> x.enqueue(id, size));
    }

    /** "id is not an existing leaf: answers `NOT_LEAF`, a refused call." */
    private static void onlyLeavesTakePackets() {
        for (int id : Family.NOT_LEAVES) {
            refused(id, 10, HierShaper.NOT_LEAF);
        }
    }

    /** The id is looked at before the size. */
    private static void aWrongIdComesBeforeABadSize() {
        for (int id : new int[] {0, 1, 4, -1, 16}) {
            for (int size : Edges.BAD_SIZES) {
                refused(id, size, HierShaper.NOT_LEAF);
            }
        }
    }

    /** "size < 1 or size > 255: answers `BAD_SIZE`, a refused call; the packet is not counted anywhere." */
    private static void otherSizesAreBad() {
        for (int size : Edges.BAD_SIZES) {
            refused(2, size, HierShaper.BAD_SIZE);
            refused(15, size, HierShaper.BAD_SIZE);
        }
    }

    /** The size is looked at before the queue: on a full one a bad size is no drop. */
    private static void aBadSizeComesBeforeAFullQueue() {
        for (int limit = 1; limit <= 8; limit++) {
            HierShaper x = Shapers.wideWithLimit(limit, 2);
            Sends.offerMany(x, 2, limit, 5);
            long[] before = View.of(x);
            for (int size : Edges.BAD_SIZES) {
                due.is("enqueue(2, " + size + ") on a full queue", x.enqueue(2, size), HierShaper.BAD_SIZE);
                due.sameView("after enqueue(2, " + size + ")", View.of(x), before);
            }
        }
    }

    /** Every size of 1..255 is taken, counted in full and sent in full. */
    private static void sizesFromOneTo255AreTaken() {
        HierShaper x = Shapers.wide(2);
        for (int size = 1; size <= 255; size++) {
            due.is("enqueue(2, " + size + ")", x.enqueue(2, size), HierShaper.OK);
            due.is("queuedBytes(2)", x.queuedBytes(2), size);
            due.is("run(1)", x.run(1), 1);
            due.reads("the send", Sends.last(x, 1), "2@0:" + size);
        }
    }

    /** "the queue already holds queueLimit packets": one below is taken, the limit itself is not. */
    private static void theLimitIsTheLastThatIsTaken() {
        for (int limit = 1; limit <= 8; limit++) {
            HierShaper x = Shapers.wideWithLimit(limit, 2);
            Sends.offerMany(x, 2, limit - 1, 9);
            due.is("queueLength(2) below the limit " + limit, x.queueLength(2), limit - 1);
            due.is("enqueue(2, 9) below the limit " + limit, x.enqueue(2, 9), HierShaper.OK);
            due.is("enqueue(2, 9) at the limit " + limit, x.enqueue(2, 9), HierShaper.DROPPED);
            due.is("enqueue(2, 9) at the limit " + limit, x.enqueue(2, 9), HierShaper.DROPPED);
            due.is("queueLength(2) at the limit " + limit, x.queueLength(2), limit);
            due.is("droppedBytes(2)", x.droppedBytes(2), 18);
        }
    }

    /** "droppedBytes(id) grows by size", from the least size to the greatest. */
    private static void aDropCountsItsSize() {
        HierShaper x = Shapers.wideWithLimit(1, 2, 15);
        Sends.offer(x, 2, 100);
        long dropped = 0;
        for (int size = 1; size <= 255; size++) {
            due.is("enqueue(2, " + size + ")", x.enqueue(2, size), HierShaper.DROPPED);
            dropped += size;
            due.is("droppedBytes(2)", x.droppedBytes(2), dropped);
        }
        due.is("droppedBytes(15)", x.droppedBytes(15), 0);
    }

    /** "nothing else changes, and the call answers `DROPPED`": the leaf's packets and turns stay as well. */
    private static void aDropChangesNothingElse() {
        for (int leaf : Family.LEAVES) {
            Twins.drops(due, leaf, 99);
        }
    }

    /** A queue takes packets again as soon as one has left it. */
    private static void aFullQueueTakesAgainAfterASend() {
        HierShaper x = Shapers.oneLink(16, 1);
        Sends.offerMany(x, 2, 8, 1);
        due.is("enqueue(2, 5) on a full queue", x.enqueue(2, 5), HierShaper.DROPPED);
        due.is("run(1)", x.run(1), 2);
        due.is("enqueue(2, 6)", x.enqueue(2, 6), HierShaper.OK);
        due.is("enqueue(2, 7)", x.enqueue(2, 7), HierShaper.OK);
        due.is("enqueue(2, 8) on a full queue", x.enqueue(2, 8), HierShaper.DROPPED);
        due.is("droppedBytes(2)", x.droppedBytes(2), 13);
        x.run(64);
        due.reads("the sends", Sends.last(x, 3), "2@0:1 2@0:6 2@0:7");
    }

    /** "Otherwise size is appended at the tail of the queue (queueLength grows by 1, queuedBytes grows by size)" */
    private static void packetsAreAppended() {
        HierShaper x = Shapers.wideWithLimit(3, 2, 15);
        int[] sizes = {1, 255, 77};
        long bytes = 0;
        for (int i = 0; i < sizes.length; i++) {
            due.is("enqueue(2, " + sizes[i] + ")", x.enqueue(2, sizes[i]), HierShaper.OK);
            bytes += sizes[i];
            due.is("queueLength(2)", x.queueLength(2), i + 1);
            due.is("queuedBytes(2)", x.queuedBytes(2), bytes);
        }
        due.is("queueLength(15)", x.queueLength(15), 0);
        due.is("droppedBytes(2)", x.droppedBytes(2), 0);
        due.is("run(1)", x.run(1), 3);
        due.reads("the sends, oldest packet first", Sends.last(x, 3), "2@0:1 2@0:255 2@0:77");
    }

    /** A queue that is filled and emptied many times keeps its order, whatever its limit is. */
    private static void theQueueGoesRound() {
        for (int limit = 1; limit <= 8; limit++) {
            HierShaper x = Shapers.wideWithLimit(limit, 2, 15);
            for (int round = 0; round < 40; round++) {
                StringBuilder want = new StringBuilder();
                int count = 1 + round % limit;
                for (int i = 0; i < count; i++) {
                    int size = 1 + (8 * round + i) % 255;
                    due.is("enqueue(2, " + size + ")", x.enqueue(2, size), HierShaper.OK);
                    want.append(i == 0 ? "2@0:" : " 2@0:").append(size);
                }
                due.is("run(1)", x.run(1), count);
                due.reads("the sends of round " + round, Sends.last(x, count), want.toString());
            }
        }
    }

    /**
     * "Nothing is ever sent by this call: buckets, deficits, pointers, sentBytes, the log and sendCount do not
     * change.": only two answers do.
     */
    private static void nothingIsSent() {
        HierShaper x = Family.worn();
        for (int leaf : new int[] {2, 3, 9, 15}) {
            long[] before = View.of(x);
            due.is("enqueue(" + leaf + ", 50)", x.enqueue(leaf, 50), HierShaper.OK);
            before[View.placeOf("queueLength", leaf)]++;
            before[View.placeOf("queuedBytes", leaf)] += 50;
            due.sameView("after enqueue(" + leaf + ", 50)", View.of(x), before);
        }
    }

    /** The pointers do not change either: leaf 9 goes on where the round stopped, before 3 and 5. */
    private static void theRoundIsKept() {
        HierShaper x = Shapers.wide(3, 5, 9);
        Sends.offer(x, 3, 200);
        Sends.offer(x, 5, 200);
        x.run(1);
        for (int leaf : new int[] {3, 5, 9}) {
            Sends.offer(x, leaf, 200);
        }
        x.run(1);
        due.reads("the sends", Sends.lastLeaves(x, 5), "3 5 9 3 5");
    }

    /** Nor does anything else that is not seen: all goes on as the document says, from every state. */
    private static void onlyTheTailIsNew() {
        for (int leaf : Family.LEAVES) {
            for (int size : new int[] {1, 150, 255}) {
                Twins.alike(due, "enqueue(" + leaf + ", " + size + ")", x -> x.enqueue(leaf, size));
            }
        }
    }

    public static void main(String[] args) {
        onlyLeavesTakePackets();
        aWrongIdComesBeforeABadSize();
        otherSizesAreBad();
        aBadSizeComesBeforeAFullQueue();
        sizesFromOneTo255AreTaken();
        theLimitIsTheLastThatIsTaken();
        aDropCountsItsSize();
        aDropChangesNothingElse();
        aFullQueueTakesAgainAfterASend();
        packetsAreAppended();
        theQueueGoesRound();
        nothingIsSent();
        theRoundIsKept();
        onlyTheTailIsNew();
        due.end();
    }
}
