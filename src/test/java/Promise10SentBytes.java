/** Promise 10: bytes sent. */
public final class Promise10SentBytes {
    private static final Due due = new Due("Promise10SentBytes");

    private static void sumsOverTheTree() {
        HierShaper x = new HierShaper(65536, 8, 16);
        x.addInner(1, 65536, 65536);
        x.addInner(2, 65536, 65536);
        x.addLeaf(3, 1, 65536, 65536);
        x.addLeaf(4, 1, 1, 65536);
        x.addLeaf(15, 2, 65536, 65536);
        Sends.offer(x, 3, 1, 2);
        Sends.offer(x, 4, 10, 20, 30);
        Sends.offer(x, 15, 255);
        for (int id = 0; id <= 15; id++) {
            due.is("sentBytes(" + id + ") before a tick", x.sentBytes(id), 0);
        }
        due.is("run(1)", x.run(1), 6);
        long[] sent = {318, 63, 255, 3, 60, 0, 0, 0, 0, 0, 0, 0, 0, 0, 0, 255};
        for (int id = 0; id <= 15; id++) {
            due.is("sentBytes(" + id + ")", x.sentBytes(id), sent[id]);
        }
        Sends.offer(x, 4, 40);
        x.run(1);
        due.is("sentBytes(4), added up", x.sentBytes(4), 100);
        due.is("sentBytes(1), added up", x.sentBytes(1), 103);
        due.is("sentBytes(0), added up", x.sentBytes(0), 358);
    }

    private static void missingClassesSentNothing() {
        HierShaper x = Shapers.busy();
        long[] before = View.of(x);
        int[] missing = {3, 14, -1, -2, 16, 17, 31, 32, Integer.MIN_VALUE, Integer.MAX_VALUE};
        for (int id : missing) {
            due.is("sentBytes(" + id + ")", x.sentBytes(id), 0);
        }
        due.sameView("after asking", View.of(x), before);
    }

    private static void droppedAndWaitingBytesDoNotCount() {
        HierShaper x = new HierShaper(16, 2, 1);
        x.addInner(1, 65536, 65536);
        x.addLeaf(2, 1, 65536, 65536);
        Sends.offer(x, 2, 100, 101, 102);
        due.is("run(1)", x.run(1), 1);
        due.is("sentBytes(2)", x.sentBytes(2), 100);
        due.is("sentBytes(0)", x.sentBytes(0), 100);
    }

    /** More bytes than an int can count, and so more tokens' worth than that sixteen times over. */
    private static void countsAreLongs() {
        HierShaper x = Shapers.wide(2, 3);
        int ticks = 1_053_000;
        for (int tick = 0; tick < ticks; tick++) {
            Sends.offerMany(x, 2, 8, 255);
            Sends.offerMany(x, 3, 1, 1);
            x.run(1);
        }
        due.holds("the bytes are more than the greatest int", 2040L * ticks > Integer.MAX_VALUE);
        due.is("sentBytes(2)", x.sentBytes(2), 2040L * ticks);
        due.is("sentBytes(1)", x.sentBytes(1), 2041L * ticks);
        due.is("sentBytes(0)", x.sentBytes(0), 2041L * ticks);
    }

    public static void main(String[] args) {
        sumsOverTheTree();
        missingClassesSentNothing();
        droppedAndWaitingBytesDoNotCount();
        countsAreLongs();
        due.end();
    }
}
