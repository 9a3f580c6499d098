/** Promise 5: offering a packet. */
public final class Promise05Enqueue {
    private static final Due due = new Due("Promise05Enqueue");

    private static void packetsAreAppended() {
        HierShaper x = Shapers.wideWithLimit(3, 2, 15);
        int[] sizes = {1, 255, 77};
        long bytes = 0;
        for (int i = 0; i < sizes.length; i++) {
            due.is("enqueue(2, " + sizes[i] + ")", x.enqueue(2, sizes[i]), HierShaper.OK);
            bytes += sizes[i];
            due.is("queueLength(2)", x.queueLength(2), i + 1);
            due.is("queuedBytes(2)", x.queuedBytes(2), bytes);
        }
        due.is("queueLength(15)", x.queueLength(15), 0);
        due.is("droppedBytes(2)", x.droppedBytes(2), 0);
        due.is("sentBytes(2)", x.sentBytes(2), 0);
        due.is("sendCount()", x.sendCount(), 0);
        due.is("tokens(2)", x.tokens(2), 1048576);
        due.is("run(1)", x.run(1), 3);
        due.reads("the sends, oldest packet first", Sends.last(x, 3), "2@0:1 2@0:255 2@0:77");
    }

    private static void aFullQueueDrops() {
        HierShaper x = Shapers.wideWithLimit(3, 2, 15);
        Sends.offer(x, 2, 10, 20, 30);
        long[] before = View.of(x);
        due.is("enqueue(2, 255) on a full queue", x.enqueue(2, 255), HierShaper.DROPPED);
        due.is("droppedBytes(2)", x.droppedBytes(2), 255);
        due.is("enqueue(2, 1) on a full queue", x.enqueue(2, 1), HierShaper.DROPPED);
        due.is("droppedBytes(2)", x.droppedBytes(2), 256);
        due.is("queueLength(2)", x.queueLength(2), 3);
        due.is("queuedBytes(2)", x.queuedBytes(2), 60);
        due.is("droppedBytes(15)", x.droppedBytes(15), 0);
        long[] after = View.of(x);
        int changed = 0;
        for (int i = 0; i < before.length; i++) {
            changed += before[i] == after[i] ? 0 : 1;
        }
        due.is("the number of answers that two drops change", changed, 1);
        due.is("enqueue(15, 9) beside a full queue", x.enqueue(15, 9), HierShaper.OK);
        x.run(1);
        due.reads("the sends", Sends.last(x, 4), "2@0:10 15@0:9 2@0:20 2@0:30");
        due.is("enqueue(2, 5) on the emptied queue", x.enqueue(2, 5), HierShaper.OK);
        due.is("droppedBytes(2) afterwards", x.droppedBytes(2), 256);
    }

    private static void refused(HierShaper x, int id, int size, int want) {
        String call = "enqueue(" + id + ", " + size + ")";
        long[] before = View.of(x);
        due.is(call, x.enqueue(id, size), want);
        due.sameView("after " + call, View.of(x), before);
    }

    private static void refusedCallsChangeNothing() {
        int[] notLeaves = {0, 1, 3, 14, 16, 17, -1, Integer.MIN_VALUE, Integer.MAX_VALUE};
        int[] badSizes = {0, -1, 256, 257, 512, Integer.MIN_VALUE, Integer.MAX_VALUE};
        HierShaper x = Shapers.wideWithLimit(3, 2, 15);
        for (int filled = 0; filled < 3; filled++) {
            for (int id : notLeaves) {
                refused(x, id, 10, HierShaper.NOT_LEAF);
                refused(x, id, 0, HierShaper.NOT_LEAF);
                refused(x, id, 256, HierShaper.NOT_LEAF);
            }
            for (int size : badSizes) {
                refused(x, 2, size, HierShaper.BAD_SIZE);
                refused(x, 15, size, HierShaper.BAD_SIZE);
            }
            Sends.offer(x, 2, 100, 101);
        }
        x.run(1);
        due.reads("the sends", Sends.last(x, 3), "2@0:100 2@0:101 2@0:100");
        due.is("droppedBytes(2)", x.droppedBytes(2), 101 + 100 + 101);
    }

    /** A queue that is filled and emptied many times keeps its order and its limit. */
    private static void theQueueGoesRound() {
        HierShaper x = Shapers.wideWithLimit(3, 2, 15);
        int size = 1;
        for (int round = 0; round < 60; round++) {
            StringBuilder want = new StringBuilder();
            int count = 1 + round % 3;
            for (int i = 0; i < count; i++) {
                due.is("enqueue(2, " + size + ")", x.enqueue(2, size), HierShaper.OK);
                want.append(i == 0 ? "2@0:" : " 2@0:").append(size);
                size++;
            }
            due.is("run(1)", x.run(1), count);
            due.reads("the sends of round " + round, Sends.last(x, count), want.toString());
        }
    }

    public static void main(String[] args) {
        packetsAreAppended();
        aFullQueueDrops();
        refusedCallsChangeNothing();
        theQueueGoesRound();
        due.end();
    }
}
