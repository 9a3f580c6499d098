/** Promise 3: adding a leaf class. */
public final class Promise03AddLeaf {
    private static final Due due = new Due("Promise03AddLeaf");

    private static void everyIdCanBeAdded() {
        for (int inner = 1; inner <= 15; inner++) {
            HierShaper x = new HierShaper(256, 4, 2);
            x.addInner(inner, 50, 70);
            for (int id = 1; id <= 15; id++) {
                if (id != inner) {
                    String call = "addLeaf(" + id + ", " + inner + ", ..)";
                    due.is(call, x.addLeaf(id, inner, 10 * id, 20 * id), HierShaper.OK);
                    checkNewLeaf(x, id);
                }
            }
            due.is("tokens of the parent", x.tokens(inner), 100);
            due.is("ctokens of the parent", x.ctokens(inner), 140);
            due.is("kind of the parent", x.kind(inner), HierShaper.KIND_INNER);
        }
    }

    private static void checkNewLeaf(HierShaper x, int id) {
        due.is("kind(" + id + ")", x.kind(id), HierShaper.KIND_LEAF);
        due.is("tokens(" + id + ")", x.tokens(id), 20L * id);
        due.is("ctokens(" + id + ")", x.ctokens(id), 40L * id);
        due.is("sentBytes(" + id + ")", x.sentBytes(id), 0);
        due.is("droppedBytes(" + id + ")", x.droppedBytes(id), 0);
        due.is("queueLength(" + id + ")", x.queueLength(id), 0);
        due.is("queuedBytes(" + id + ")", x.queuedBytes(id), 0);
        for (int level = 0; level <= 2; level++) {
            due.is("deficit(" + id + ", " + level + ")", x.deficit(id, level), 0);
        }
    }

    private static void ratesAreClamped() {
        int[][] rateCeilAndDue = {
            {1, 1, 1, 1}, {2, 9, 2, 9}, {65535, 65536, 65535, 65536}, {65536, 65536, 65536, 65536},
            {0, 5, 1, 5}, {-1, 5, 1, 5}, {Integer.MIN_VALUE, 5, 1, 5},
            {65537, 5, 65536, 65536}, {Integer.MAX_VALUE, Integer.MIN_VALUE, 65536, 65536},
            {100, 99, 100, 100}, {100, 101, 100, 101}, {100, Integer.MIN_VALUE, 100, 100},
            {100, 65537, 100, 65536}, {100, Integer.MAX_VALUE, 100, 65536}, {0, 0, 1, 1}
        };
        for (int[] row : rateCeilAndDue) {
            String call = "addLeaf(3, 1, " + row[0] + ", " + row[1] + ")";
            HierShaper x = new HierShaper(256, 4, 3);
            x.addInner(1, 10, 20);
            due.is(call, x.addLeaf(3, 1, row[0], row[1]), HierShaper.OK);
            due.is("tokens(3) after " + call, x.tokens(3), 3L * row[2]);
            due.is("ctokens(3) after " + call, x.ctokens(3), 3L * row[3]);
        }
    }

    private static void refused(HierShaper x, int id, int parent, int want) {
        String call = "addLeaf(" + id + ", " + parent + ", 50, 60)";
        long[] before = View.of(x);
        due.is(call, x.addLeaf(id, parent, 50, 60), want);
        due.sameView("after " + call, View.of(x), before);
    }

    private static void refusedCallsChangeNothing() {
        HierShaper x = Shapers.busy();
        int[] badIds = {0, -1, 16, 17, Integer.MIN_VALUE, Integer.MAX_VALUE};
        for (int id : badIds) {
            refused(x, id, 1, HierShaper.BAD_ID);
            refused(x, id, 99, HierShaper.BAD_ID);
        }
        int[] usedIds = {1, 7, 2, 15};
        for (int id : usedIds) {
            refused(x, id, 7, HierShaper.EXISTS);
            refused(x, id, 0, HierShaper.EXISTS);
            refused(x, id, -1, HierShaper.EXISTS);
        }
        int[] badParents = {0, 2, 15, 3, 4, 14, 16, 17, 31, -1, -15, Integer.MIN_VALUE, Integer.MAX_VALUE};
        for (int parent : badParents) {
            refused(x, 3, parent, HierShaper.BAD_PARENT);
        }
        HierShaper untouched = Shapers.busy();
        due.is("run(5) after refused calls", x.run(5), untouched.run(5));
        due.sameView("5 ticks after refused calls", View.of(x), View.of(untouched));
        due.is("addLeaf(3, 7, 50, 60)", x.addLeaf(3, 7, 50, 60), HierShaper.OK);
    }

    /** Against leaf 3 of priority 0 and of quantum 256, leaf 2 takes turns from its first packet on. */
    private static void priorityIsZeroAndQuantumIs256() {
        HierShaper x = Shapers.wide(2, 3);
        x.setLeafSched(3, 0, 256);
        Sends.offer(x, 2, 200, 200);
        Sends.offer(x, 3, 200, 200);
        x.run(1);
        due.reads("the sends", Sends.lastLeaves(x, 4), "2 3 2 3");
        due.is("deficit(2, 0)", x.deficit(2, 0), 256 - 200 - 200 + 256);
    }

    private static void theLeafHangsUnderItsParent() {
        HierShaper x = new HierShaper(65536, 8, 16);
        x.addInner(1, 1000, 1000);
        x.addInner(2, 1000, 1000);
        x.addLeaf(3, 2, 500, 500);
        x.addLeaf(4, 1, 500, 500);
        Sends.offer(x, 3, 10);
        x.run(1);
        due.is("sentBytes(1)", x.sentBytes(1), 0);
        due.is("sentBytes(2)", x.sentBytes(2), 10);
        Sends.offer(x, 4, 20);
        x.run(1);
        due.is("sentBytes(1)", x.sentBytes(1), 20);
        due.is("sentBytes(2)", x.sentBytes(2), 10);
    }

    /** A leaf that is added between two others joins the round where the pointer stands. */
    private static void pointersAreKept() {
        HierShaper x = Shapers.wide(3, 9);
        Sends.offer(x, 3, 200);
        x.run(1);
        x.addLeaf(2, 1, 65536, 65536);
        x.addLeaf(6, 1, 65536, 65536);
        x.addInner(10, 1, 1);
        Sends.offer(x, 2, 200);
        Sends.offer(x, 3, 200);
        Sends.offer(x, 6, 200);
        Sends.offer(x, 9, 200);
        due.is("sendCount()", x.sendCount(), 1);
        x.run(1);
        due.reads("the sends", Sends.lastLeaves(x, 5), "3 6 9 2 3");
    }

    public static void main(String[] args) {
        everyIdCanBeAdded();
        ratesAreClamped();
        refusedCallsChangeNothing();
        priorityIsZeroAndQuantumIs256();
        theLeafHangsUnderItsParent();
        pointersAreKept();
        due.end();
    }
}
