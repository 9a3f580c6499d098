/** Promise 11: bytes dropped. */
public final class Promise11DroppedBytes {
    private static final Due due = new Due("Promise11DroppedBytes");

    private static void dropsAddUpByLeaf() {
        HierShaper x = Shapers.wideWithLimit(1, 2, 15);
        Sends.offer(x, 2, 100, 1, 255);
        Sends.offer(x, 15, 100, 33);
        due.is("droppedBytes(2)", x.droppedBytes(2), 256);
        due.is("droppedBytes(15)", x.droppedBytes(15), 33);
        Sends.offer(x, 2, 0, 256, -1);
        due.is("droppedBytes(2) after bad sizes", x.droppedBytes(2), 256);
        x.run(5);
        due.is("droppedBytes(2) after sending", x.droppedBytes(2), 256);
        Sends.offer(x, 2, 50);
        due.is("droppedBytes(2) after a packet that was taken", x.droppedBytes(2), 256);
        Sends.offer(x, 2, 60);
        due.is("droppedBytes(2) after one more drop", x.droppedBytes(2), 316);
    }

    private static void othersDropNothing() {
        HierShaper x = Shapers.wideWithLimit(1, 2, 15);
        Sends.offer(x, 2, 100, 1, 255);
        long[] before = View.of(x);
        int[] notLeaves = {0, 1, 3, 14, -1, -2, 16, 17, 18, 32, Integer.MIN_VALUE, Integer.MAX_VALUE};
        for (int id : notLeaves) {
            due.is("droppedBytes(" + id + ")", x.droppedBytes(id), 0);
        }
        due.sameView("after asking", View.of(x), before);
    }

    private static void countsAreLongs() {
        HierShaper x = Shapers.wideWithLimit(1, 2, 15);
        x.enqueue(2, 1);
        long want = 0;
        while (want <= Integer.MAX_VALUE) {
            x.enqueue(2, 255);
            want += 255;
        }
        due.is("droppedBytes(2)", x.droppedBytes(2), want);
    }

    public static void main(String[] args) {
        dropsAddUpByLeaf();
        othersDropNothing();
        countsAreLongs();
        due.end();
    }
}
