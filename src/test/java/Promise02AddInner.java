/** Promise 2: adding an inner class. */
public final class Promise02AddInner {
    private static final Due due = new Due("Promise02AddInner");

    private static void everyIdCanBeAdded() {
        HierShaper x = new HierShaper(256, 4, 2);
        for (int id = 1; id <= 15; id++) {
            due.is("addInner(" + id + ", ..)", x.addInner(id, 10 * id, 20 * id), HierShaper.OK);
            due.is("kind(" + id + ")", x.kind(id), HierShaper.KIND_INNER);
            due.is("tokens(" + id + ")", x.tokens(id), 20L * id);
            due.is("ctokens(" + id + ")", x.ctokens(id), 40L * id);
            due.is("sentBytes(" + id + ")", x.sentBytes(id), 0);
            due.is("colour(" + id + ")", x.colour(id), HierShaper.GREEN);
            due.is("deficit(" + id + ", 0)", x.deficit(id, 0), -1);
        }
        due.is("kind(0)", x.kind(0), HierShaper.KIND_ROOT);
    }

    private static void ratesAreClamped() {
        int[][] rateCeilAndDue = {
            {1, 1, 1, 1}, {2, 9, 2, 9}, {65535, 65536, 65535, 65536}, {65536, 65536, 65536, 65536},
            {0, 5, 1, 5}, {-1, 5, 1, 5}, {Integer.MIN_VALUE, 5, 1, 5},
            {65537, 5, 65536, 65536}, {Integer.MAX_VALUE, Integer.MIN_VALUE, 65536, 65536},
            {100, 99, 100, 100}, {100, 100, 100, 100}, {100, 101, 100, 101}, {100, -1, 100, 100},
            {100, Integer.MIN_VALUE, 100, 100}, {100, 65537, 100, 65536},
            {100, Integer.MAX_VALUE, 100, 65536}, {0, 0, 1, 1}, {-5, -9, 1, 1}
        };
        for (int[] row : rateCeilAndDue) {
            String call = "addInner(3, " + row[0] + ", " + row[1] + ")";
            HierShaper x = new HierShaper(256, 4, 3);
            due.is(call, x.addInner(3, row[0], row[1]), HierShaper.OK);
            due.is("tokens(3) after " + call, x.tokens(3), 3L * row[2]);
            due.is("ctokens(3) after " + call, x.ctokens(3), 3L * row[3]);
        }
    }

    /** The clamped rate is also what a tick adds. */
    private static void clampedRatesRefill() {
        HierShaper x = new HierShaper(65536, 8, 16);
        x.addInner(1, -7, 3);
        x.addLeaf(2, 1, 65536, 65536);
        Sends.offer(x, 2, 100);
        due.is("run(1)", x.run(1), 1);
        due.is("tokens(1)", x.tokens(1), 16 - 1600);
        due.is("ctokens(1)", x.ctokens(1), 48 - 1600);
        x.run(10);
        due.is("tokens(1) after 10 ticks", x.tokens(1), 16 - 1600 + 10);
        due.is("ctokens(1) after 10 ticks", x.ctokens(1), 48 - 1600 + 30);
    }

    private static void refusedCallsChangeNothing() {
        HierShaper x = Shapers.busy();
        long[] before = View.of(x);
        int[] badIds = {0, -1, -2, 16, 17, 32, Integer.MIN_VALUE, Integer.MAX_VALUE};
        for (int id : badIds) {
            due.is("addInner(" + id + ", 50, 60)", x.addInner(id, 50, 60), HierShaper.BAD_ID);
            due.sameView("after addInner(" + id + ", 50, 60)", View.of(x), before);
        }
        int[] usedIds = {1, 7, 2, 15};
        for (int id : usedIds) {
            due.is("addInner(" + id + ", 50, 60)", x.addInner(id, 50, 60), HierShaper.EXISTS);
            due.sameView("after addInner(" + id + ", 50, 60)", View.of(x), before);
        }
        HierShaper untouched = Shapers.busy();
        due.is("run(5) after refused calls", x.run(5), untouched.run(5));
        due.sameView("5 ticks after refused calls", View.of(x), View.of(untouched));
    }

    private static void theRestStaysAsItWas() {
        HierShaper x = Shapers.busy();
        HierShaper without = Shapers.busy();
        due.is("addInner(3, 50, 60)", x.addInner(3, 50, 60), HierShaper.OK);
        due.is("tokens(3), added after a tick", x.tokens(3), 100);
        due.is("ctokens(3), added after a tick", x.ctokens(3), 120);
        for (int id = 0; id <= 15; id++) {
            if (id != 3) {
                sameClass(id, x, without);
            }
        }
        due.is("run(6)", x.run(6), without.run(6));
        due.is("sendCount()", x.sendCount(), without.sendCount());
        due.reads("the log", Sends.last(x, x.sendCount()), Sends.last(without, x.sendCount()));
    }

    private static void sameClass(int id, HierShaper x, HierShaper other) {
        due.is("kind(" + id + ")", x.kind(id), other.kind(id));
        due.is("tokens(" + id + ")", x.tokens(id), other.tokens(id));
        due.is("ctokens(" + id + ")", x.ctokens(id), other.ctokens(id));
        due.is("sentBytes(" + id + ")", x.sentBytes(id), other.sentBytes(id));
        due.is("droppedBytes(" + id + ")", x.droppedBytes(id), other.droppedBytes(id));
        due.is("queuedBytes(" + id + ")", x.queuedBytes(id), other.queuedBytes(id));
        due.is("deficit(" + id + ", 0)", x.deficit(id, 0), other.deficit(id, 0));
    }

    public static void main(String[] args) {
        everyIdCanBeAdded();
        ratesAreClamped();
        clampedRatesRefill();
        refusedCallsChangeNothing();
        theRestStaysAsItWas();
        due.end();
    }
}
