/** Promise 2: adding an inner class. Above each test stand the words that it holds the program to. */
public final class Promise02AddInner {
    private static final Due due = new Due("Promise02AddInner");

    /** Every id of 1..15 is taken, "the class now exists with kind `KIND_INNER`", "answers `OK`". */
    private static void idsFromOneToFifteenAreTaken() {
        HierShaper x = new HierShaper(256, 4, 2);
        for (int id = 1; id <= 15; id++) {
            due.is("addInner(" + id + ", ..)", x.addInner(id, 10 * id, 20 * id), HierShaper.OK);
            due.is("kind(" + id + ")", x.kind(id), HierShaper.KIND_INNER);
            due.buckets("right after", x, id, 20L * id, 40L * id);
            due.is("sentBytes(" + id + ")", x.sentBytes(id), 0);
            due.is("colour(" + id + ")", x.colour(id), HierShaper.GREEN);
        }
        due.is("kind(0)", x.kind(0), HierShaper.KIND_ROOT);
    }

    /** "id < 1 or id > 15: answers `BAD_ID` (this includes id 0 and every negative id)", and changes nothing. */
    private static void otherIdsAreBad() {
        for (int id : Edges.join(new int[] {0}, Edges.OUTSIDE_IDS)) {
            Twins.refused(due, "addInner(" + id + ", 50, 60)", HierShaper.BAD_ID, x -> x.addInner(id, 50, 60));
        }
    }

    /** The root exists as well, but the id is looked at first. */
    private static void theRootIsABadIdBeforeItExists() {
        HierShaper x = new HierShaper(256, 4, 2);
        due.is("addInner(0, 1, 1)", x.addInner(0, 1, 1), HierShaper.BAD_ID);
        due.is("kind(0)", x.kind(0), HierShaper.KIND_ROOT);
        due.buckets("after addInner(0, 1, 1)", x, 0, 512, 512);
    }

    /** "class id already exists (as inner or leaf): answers `EXISTS`", and changes nothing. */
    private static void usedIdsExist() {
        for (int id : Edges.join(Family.INNERS, Family.LEAVES)) {
            Twins.refused(due, "addInner(" + id + ", 50, 60)", HierShaper.EXISTS, x -> x.addInner(id, 50, 60));
        }
    }

    /** The first and the last id, each used as inner and as leaf. */
    private static void theEndsOfTheRangeExistOnceAdded() {
        for (int inner = 1; inner <= 15; inner += 14) {
            int leaf = 16 - inner;
            HierShaper x = new HierShaper(256, 4, 2);
            due.is("addInner(" + inner + ", 1, 1)", x.addInner(inner, 1, 1), HierShaper.OK);
            due.is("addInner(" + inner + ", 1, 1) again", x.addInner(inner, 1, 1), HierShaper.EXISTS);
            due.is("addLeaf(" + leaf + ", ..)", x.addLeaf(leaf, inner, 1, 1), HierShaper.OK);
            due.is("addInner(" + leaf + ", 1, 1)", x.addInner(leaf, 1, 1), HierShaper.EXISTS);
            due.is("kind(" + leaf + ")", x.kind(leaf), HierShaper.KIND_LEAF);
        }
    }

    private static void clamped(int rate, int ceil, long dueRate, long dueCeil) {
        for (int depth = 1; depth <= 16; depth += 15) {
            String call = "addInner(3, " + rate + ", " + ceil + ")";
            HierShaper x = new HierShaper(256, 4, depth);
            due.is(call, x.addInner(3, rate, ceil), HierShaper.OK);
            due.buckets(call + " at depth " + depth, x, 3, dueRate * depth, dueCeil * depth);
        }
    }

    /** "rate is clamped into 1..65536" */
    private static void rateIsClamped() {
        for (int[] row : Edges.RATES) {
            clamped(row[0], 65536, row[1], 65536);
        }
    }

    /** "ceil is clamped into r..65536, where r is the clamped rate (below r becomes r)" */
    private static void ceilIsClamped() {
        for (int[] row : Edges.CEILS) {
            clamped(row[0], row[1], row[2], row[3]);
        }
    }

    /** The clamped rate and ceil are also what a tick adds: at the lower ends, */
    private static void theLeastRatesRefill() {
        for (int[] row : Edges.LOW_RATES) {
            HierShaper x = Shapers.oneInner(row[0], row[1], 16);
            Sends.offer(x, 2, 100);
            due.is("run(1)", x.run(1), 1);
            due.buckets("sent", x, 1, 16 * row[2] - 1600, 16 * row[3] - 1600);
            x.run(10);
            due.buckets("10 ticks later", x, 1, 26 * row[2] - 1600, 26 * row[3] - 1600);
        }
    }

    /** and at the upper ends, where it takes the greatest load to leave room for a whole refill. */
    private static void theGreatestRatesRefill() {
        int[][] rateCeilAndDue = {
            {65535, 65536, 65535, 65536}, {65535, 65535, 65535, 65535}, {65536, 65536, 65536, 65536},
            {65537, 65537, 65536, 65536}, {65535, 65537, 65535, 65536}, {Integer.MAX_VALUE, 0, 65536, 65536}
        };
        for (int[] row : rateCeilAndDue) {
            HierShaper x = Shapers.loaded(65536, row[0], row[1]);
            due.is("run(1)", x.run(1), Shapers.LOAD_PACKETS);
            long spent = Shapers.LOAD_TOKENS;
            due.buckets("sent", x, 1, 16L * row[2] - spent, 16L * row[3] - spent);
            x.run(1);
            due.buckets("a tick later", x, 1, 17L * row[2] - spent, 17L * row[3] - spent);
        }
    }

    /** "filled to capacity when c is added": late in a run as well. */
    private static void aLateClassStartsFull() {
        HierShaper x = Family.starved();
        due.is("addInner(4, 50, 60)", x.addInner(4, 50, 60), HierShaper.OK);
        due.buckets("added late", x, 4, 100, 120);
        due.is("sentBytes(4), added late", x.sentBytes(4), 0);
        due.is("kind(4), added late", x.kind(4), HierShaper.KIND_INNER);
    }

    /** "All other classes, all queues, deficits and pointers, the log and sendCount are unchanged." */
    private static void theRestIsUnchanged() {
        for (int id : new int[] {4, 12}) {
            Twins.adds(due, "addInner(" + id + ", 50, 60)", id, x -> x.addInner(id, 50, 60));
        }
    }

    public static void main(String[] args) {
        idsFromOneToFifteenAreTaken();
        otherIdsAreBad();
        theRootIsABadIdBeforeItExists();
        usedIdsExist();
        theEndsOfTheRangeExistOnceAdded();
        rateIsClamped();
        ceilIsClamped();
        theLeastRatesRefill();
        theGreatestRatesRefill();
        aLateClassStartsFull();
        theRestIsUnchanged();
        due.end();
    }
}
