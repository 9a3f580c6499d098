/** Promise 12: queue contents. */
public final class Promise12Queues {
    private static final Due due = new Due("Promise12Queues");
    /** The greatest packet is 4080 tokens and the least link rate is 16 a tick. */
    private static final int MOST_TICKS = 256;

    private static void queue(String when, HierShaper x, int id, int length, long bytes) {
        due.is(when + ": queueLength(" + id + ")", x.queueLength(id), length);
        due.is(when + ": queuedBytes(" + id + ")", x.queuedBytes(id), bytes);
    }

    private static void queuesFillAndEmpty() {
        for (int limit = 1; limit <= 8; limit++) {
            HierShaper x = new HierShaper(16, limit, 1);
            x.addInner(1, 65536, 65536);
            x.addLeaf(2, 1, 65536, 65536);
            x.addLeaf(15, 1, 65536, 65536);
            long bytes = 0;
            queue("a new leaf", x, 2, 0, 0);
            for (int i = 1; i <= limit + 2; i++) {
                x.enqueue(2, 240 + i);
                bytes += i <= limit ? 240 + i : 0;
                queue("limit " + limit + ", packet " + i, x, 2, Math.min(i, limit), bytes);
            }
            queue("the other leaf", x, 15, 0, 0);
            for (int i = 1; i <= limit; i++) {
                for (int tick = 0; tick < MOST_TICKS && x.run(1) == 0; tick++) {
                    queue("waiting for tokens", x, 2, limit - i + 1, bytes);
                }
                bytes -= 240 + i;
                queue("limit " + limit + ", send " + i, x, 2, limit - i, bytes);
            }
        }
    }

    /** Sends and arrivals in turn, so that the oldest packet stands at every place of the queue. */
    private static void queuesMoveOn() {
        HierShaper x = new HierShaper(16, 8, 1);
        x.addInner(1, 65536, 65536);
        x.addLeaf(2, 1, 65536, 65536);
        long bytes = 0;
        for (int size = 11; size <= 17; size++) {
            x.enqueue(2, size);
            bytes += size;
        }
        for (int size = 18; size <= 60; size++) {
            x.enqueue(2, size);
            bytes += size;
            queue("before sending " + (size - 7), x, 2, 8, bytes);
            for (int tick = 0; tick < MOST_TICKS && x.run(1) == 0; tick++) {
                queue("waiting for tokens", x, 2, 8, bytes);
            }
            bytes -= size - 7;
            queue("after sending " + (size - 7), x, 2, 7, bytes);
            due.is("the packet sent", x.logEntry(0) >> 6, size - 7);
        }
    }

    private static void othersHaveNoQueue() {
        HierShaper x = Shapers.busy();
        long[] before = View.of(x);
        int[] notLeaves = {0, 1, 7, 3, 14, -1, -2, 16, 17, 18, 31, 32, Integer.MIN_VALUE, Integer.MAX_VALUE};
        for (int id : notLeaves) {
            queue("not a leaf", x, id, 0, 0);
        }
        due.sameView("after asking", View.of(x), before);
    }

    public static void main(String[] args) {
        queuesFillAndEmpty();
        queuesMoveOn();
        othersHaveNoQueue();
        due.end();
    }
}
