/** Promise 14: send count and send log. */
public final class Promise14SendLog {
    private static final Due due = new Due("Promise14SendLog");

    private static void anEmptyLog() {
        HierShaper x = Shapers.wide(2);
        x.enqueue(2, 10);
        due.is("sendCount()", x.sendCount(), 0);
        int[] places = {0, 1, 2, 63, 64, 65, -1, -64, Integer.MIN_VALUE, Integer.MAX_VALUE};
        for (int k : places) {
            due.is("logEntry(" + k + ")", x.logEntry(k), -1);
        }
    }

    /** Packet i has i % 255 + 1 bytes; after every send the whole log is looked at. */
    private static void theNewest64AreKept() {
        HierShaper x = Shapers.wide(2, 15);
        for (int count = 1; count <= 200; count++) {
            x.enqueue(leafOf(count), sizeOf(count));
            x.run(1);
            due.is("sendCount()", x.sendCount(), count);
            for (int k = 0; k <= 70; k++) {
                int past = count - k;
                boolean kept = k < 64 && past >= 1;
                due.is("logEntry(" + k + ") after " + count + " sends", x.logEntry(k),
                        kept ? leafOf(past) + 64 * sizeOf(past) : -1);
            }
            int[] wrong = {-1, -2, -63, -64, 127, 128, Integer.MIN_VALUE, Integer.MAX_VALUE};
            for (int k : wrong) {
                due.is("logEntry(" + k + ") after " + count + " sends", x.logEntry(k), -1);
            }
        }
    }

    private static int leafOf(int send) {
        return send % 3 == 0 ? 15 : 2;
    }

    private static int sizeOf(int send) {
        return send * 37 % 255 + 1;
    }

    private static void entriesHoldTheLevel() {
        HierShaper x = new HierShaper(65536, 8, 1);
        x.addInner(1, 200, 65536);
        x.addLeaf(15, 1, 100, 65536);
        Sends.offer(x, 15, 10, 255, 1);
        due.is("run(1)", x.run(1), 3);
        due.is("logEntry(2)", x.logEntry(2), 15 + 64 * 10);
        due.is("logEntry(1)", x.logEntry(1), 15 + 16 + 64 * 255);
        due.is("logEntry(0)", x.logEntry(0), 15 + 32 + 64);
    }

    private static void manySendsInOneCall() {
        HierShaper x = Shapers.wide(2, 3, 4, 5, 6, 7, 8, 9, 10, 11, 12, 13, 14, 15);
        for (int leaf = 2; leaf <= 15; leaf++) {
            Sends.offer(x, leaf, 200, 201);
            Sends.offerMany(x, leaf, 6, 255);
        }
        due.is("run(1)", x.run(1), 112);
        due.is("sendCount()", x.sendCount(), 112);
        due.is("logEntry(63)", x.logEntry(63) >> 6, 255);
        due.is("logEntry(64)", x.logEntry(64), -1);
        due.is("run(1), none left", x.run(1), 0);
        due.is("sendCount() after an empty tick", x.sendCount(), 112);
    }

    private static void askingChangesNothing() {
        HierShaper x = Shapers.busy();
        long[] before = View.of(x);
        for (int k = -1; k <= 64; k++) {
            x.logEntry(k);
            x.sendCount();
        }
        due.sameView("after asking", View.of(x), before);
    }

    public static void main(String[] args) {
        anEmptyLog();
        theNewest64AreKept();
        entriesHoldTheLevel();
        manySendsInOneCall();
        askingChangesNothing();
        due.end();
    }
}
