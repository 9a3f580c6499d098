/** Promise 10: bytes sent. Above each test stand the words of the document it holds the program to. */
public final class Promise10SentBytes {
    private static final Due due = new Due("Promise10SentBytes");

    /** "for a leaf, its own packets; for an inner class, the packets of its leaves; for the root, all packets" */
    private static void sumsOverTheTree() {
        HierShaper x = new HierShaper(65536, 8, 16);
        x.addInner(1, 65536, 65536);
        x.addInner(2, 65536, 65536);
        x.addLeaf(3, 1, 65536, 65536);
        x.addLeaf(4, 1, 1, 65536);
        x.addLeaf(15, 2, 65536, 65536);
        Sends.offer(x, 3, 1, 2);
        Sends.offer(x, 4, 10, 20, 30);
        Sends.offer(x, 15, 255);
        for (int id = 0; id <= 15; id++) {
            due.is("sentBytes(" + id + ") before a tick", x.sentBytes(id), 0);
        }
        due.is("run(1)", x.run(1), 6);
        long[] sent = {318, 63, 255, 3, 60, 0, 0, 0, 0, 0, 0, 0, 0, 0, 0, 255};
        for (int id = 0; id <= 15; id++) {
            due.is("sentBytes(" + id + ")", x.sentBytes(id), sent[id]);
        }
        Sends.offer(x, 4, 40);
        x.run(1);
        due.is("sentBytes(4), added up", x.sentBytes(4), 100);
        due.is("sentBytes(1), added up", x.sentBytes(1), 103);
        due.is("sentBytes(0), added up", x.sentBytes(0), 358);
    }

    /** The bytes of a send count on the whole path at every lending level. */
    private static void everyLevelCounts() {
        for (int level = 0; level <= 2; level++) {
            HierShaper x = Shapers.atLevel(level, 3, 15);
            long before = x.sentBytes(0);
            long ofLeaf = x.sentBytes(15);
            Sends.offer(x, 15, 1, 255);
            due.is("run(1)", x.run(1), 2);
            due.is("sentBytes(15) at level " + level, x.sentBytes(15), ofLeaf + 256);
            due.is("sentBytes(7) at level " + level, x.sentBytes(7), before + 256);
            due.is("sentBytes(0) at level " + level, x.sentBytes(0), before + 256);
        }
    }

    /** "Answers 0 if the class does not exist." */
    private static void missingClassesSentNothing() {
        HierShaper x = Family.worn();
        for (int id : Family.NO_CLASSES) {
            due.is("sentBytes(" + id + ")", x.sentBytes(id), 0);
        }
    }

    /** A class without a send answers 0 as well: an inner class without leaves, a leaf without a packet. */
    private static void unusedClassesSentNothing() {
        HierShaper x = Family.worn();
        x.addInner(4, 9, 9);
        x.addLeaf(6, 1, 9, 9);
        x.run(64);
        due.is("sentBytes(4)", x.sentBytes(4), 0);
        due.is("sentBytes(6)", x.sentBytes(6), 0);
    }

    private static void droppedAndWaitingBytesDoNotCount() {
        HierShaper x = new HierShaper(16, 2, 1);
        x.addInner(1, 65536, 65536);
        x.addLeaf(2, 1, 65536, 65536);
        Sends.offer(x, 2, 100, 101, 102);
        due.is("run(1)", x.run(1), 1);
        due.is("sentBytes(2)", x.sentBytes(2), 100);
        due.is("sentBytes(0)", x.sentBytes(0), 100);
    }

    /** More bytes than an int can count, for a leaf, an inner class and the root. */
    private static void countsAreLongs() {
        HierShaper x = Shapers.wide(2, 3);
        int ticks = 1_053_000;
        for (int tick = 0; tick < ticks; tick++) {
            Sends.offerMany(x, 2, 8, 255);
            Sends.offerMany(x, 3, 1, 1);
            x.run(1);
        }
        due.holds("the bytes are more than the greatest int", 2040L * ticks > Integer.MAX_VALUE);
        due.is("sentBytes(2)", x.sentBytes(2), 2040L * ticks);
        due.is("sentBytes(1)", x.sentBytes(1), 2041L * ticks);
        due.is("sentBytes(0)", x.sentBytes(0), 2041L * ticks);
    }

    /** "It changes nothing." */
    private static void askingChangesNothing() {
        Twins.unchangedBy(due, "sentBytes", x -> {
            for (int id : Edges.ASKED_IDS) {
                x.sentBytes(id);
            }
        });
    }

    public static void main(String[] args) {
        sumsOverTheTree();
        everyLevelCounts();
        missingClassesSentNothing();
        unusedClassesSentNothing();
        droppedAndWaitingBytesDoNotCount();
        countsAreLongs();
        askingChangesNothing();
        due.end();
    }
}
