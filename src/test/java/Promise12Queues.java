/** Promise 12: queue contents. Above each test stand the words of the document it holds the program to. */
public final class Promise12Queues {
    private static final Due due = new Due("Promise12Queues");
    /** The greatest packet is 4080 tokens and the least link rate is 16 a tick. */
    private static final int MOST_TICKS = 256;

    private static void queue(String when, HierShaper x, int id, int length, long bytes) {
        due.is(when + ": queueLength(" + id + ")", x.queueLength(id), length);
        due.is(when + ": queuedBytes(" + id + ")", x.queuedBytes(id), bytes);
    }

    /**
     * "the number of packets now in the queue of leaf id, a value in 0..queueLimit" and "the sum of the sizes
     * of the packets now in that queue": up from 0 to each limit and down again.
     */
    private static void queuesFillAndEmpty() {
        for (int limit = 1; limit <= 8; limit++) {
            HierShaper x = new HierShaper(16, limit, 1);
            x.addInner(1, 65536, 65536);
            x.addLeaf(2, 1, 65536, 65536);
            x.addLeaf(15, 1, 65536, 65536);
            long bytes = 0;
            queue("a new leaf", x, 2, 0, 0);
            for (int i = 1; i <= limit + 2; i++) {
                x.enqueue(2, 240 + i);
                bytes += i <= limit ? 240 + i : 0;
                queue("limit " + limit + ", packet " + i, x, 2, Math.min(i, limit), bytes);
            }
            queue("the other leaf", x, 15, 0, 0);
            for (int i = 1; i <= limit; i++) {
                for (int tick = 0; tick < MOST_TICKS && x.run(1) == 0; tick++) {
                    queue("waiting for tokens", x, 2, limit - i + 1, bytes);
                }
                bytes -= 240 + i;
                queue("limit " + limit + ", send " + i, x, 2, limit - i, bytes);
            }
        }
    }

    /** The least and the greatest that a queue can hold. */
    private static void theLeastAndTheGreatestQueue() {
        HierShaper x = Shapers.wide(2, 15);
        Sends.offer(x, 2, 1);
        queue("one byte", x, 2, 1, 1);
        Sends.offerMany(x, 15, 9, 255);
        queue("eight of the greatest packets", x, 15, 8, 2040);
        x.run(1);
        queue("sent", x, 2, 0, 0);
        queue("sent", x, 15, 0, 0);
    }

    /** Sends and arrivals in turn, so that the oldest packet stands at every place of the queue. */
    private static void queuesMoveOn() {
        HierShaper x = Shapers.oneLink(16, 1);
        long bytes = 0;
        for (int size = 11; size <= 17; size++) {
            x.enqueue(2, size);
            bytes += size;
        }
        for (int size = 18; size <= 60; size++) {
            x.enqueue(2, size);
            bytes += size;
            queue("before sending " + (size - 7), x, 2, 8, bytes);
            for (int tick = 0; tick < MOST_TICKS && x.run(1) == 0; tick++) {
                queue("waiting for tokens", x, 2, 8, bytes);
            }
            bytes -= size - 7;
            queue("after sending " + (size - 7), x, 2, 7, bytes);
            due.is("the packet sent", x.logEntry(0) >> 6, size - 7);
        }
    }

    /** "Each answers 0 if id is not an existing leaf." */
    private static void othersHaveNoQueue() {
        HierShaper x = Family.starved();
        for (int id : Family.NOT_LEAVES) {
            queue("not a leaf", x, id, 0, 0);
        }
    }

    /** "Neither changes anything." */
    private static void askingChangesNothing() {
        Twins.unchangedBy(due, "queueLength and queuedBytes", x -> {
            for (int id : Edges.ASKED_IDS) {
                x.queueLength(id);
                x.queuedBytes(id);
            }
        });
    }

    public static void main(String[] args) {
        queuesFillAndEmpty();
        theLeastAndTheGreatestQueue();
        queuesMoveOn();
        othersHaveNoQueue();
        askingChangesNothing();
        due.end();
    }
}
