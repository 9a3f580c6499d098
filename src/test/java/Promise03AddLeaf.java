/** Promise 3: adding a leaf class. Above each test stand the words that it holds the program to. */
public final class Promise03AddLeaf {
    private static final Due due = new Due("Promise03AddLeaf");

    /** Every id of 1..15 is taken, under an inner class of every id of 1..15, and answers `OK`. */
    private static void idsFromOneToFifteenAreTaken() {
        for (int inner = 1; inner <= 15; inner++) {
            HierShaper x = new HierShaper(256, 4, 2);
            x.addInner(inner, 50, 70);
            for (int id = 1; id <= 15; id++) {
                if (id != inner) {
                    String call = "addLeaf(" + id + ", " + inner + ", ..)";
                    due.is(call, x.addLeaf(id, inner, 10 * id, 20 * id), HierShaper.OK);
                    due.is("kind(" + id + ")", x.kind(id), HierShaper.KIND_LEAF);
                    due.buckets("right after " + call, x, id, 20L * id, 40L * id);
                }
            }
        }
    }

    private static void refused(int id, int parent, int want) {
        String call = "addLeaf(" + id + ", " + parent + ", 50, 60)";
        Twins.refused(due, call, want, x -> x.addLeaf(id, parent, 50, 60));
    }

    /** "id < 1 or id > 15: answers `BAD_ID`", and changes nothing. */
    private static void otherIdsAreBad() {
        for (int id : Edges.join(new int[] {0}, Edges.OUTSIDE_IDS)) {
            refused(id, 1, HierShaper.BAD_ID);
        }
    }

    /** The id is looked at before the parent, whatever is wrong with that. */
    private static void aBadIdComesBeforeABadParent() {
        for (int parent : new int[] {0, 2, 4, -1, 16}) {
            refused(0, parent, HierShaper.BAD_ID);
            refused(-1, parent, HierShaper.BAD_ID);
            refused(16, parent, HierShaper.BAD_ID);
        }
    }

    /** "class id already exists: answers `EXISTS`", and changes nothing. */
    private static void usedIdsExist() {
        for (int id : Edges.join(Family.INNERS, Family.LEAVES)) {
            refused(id, 7, HierShaper.EXISTS);
        }
    }

    /** A used id is told before the parent is looked at, even where the parent is the class itself. */
    private static void aUsedIdComesBeforeABadParent() {
        for (int id : new int[] {1, 2, 15}) {
            for (int parent : new int[] {0, id, 3, 4, -1, 16}) {
                refused(id, parent, HierShaper.EXISTS);
            }
        }
    }

    /** "parent is not the id of an existing inner class (this includes the root": `BAD_PARENT`. */
    private static void theRootIsNoParent() {
        refused(4, 0, HierShaper.BAD_PARENT);
    }

    /** "a leaf" */
    private static void aLeafIsNoParent() {
        for (int parent : Family.LEAVES) {
            refused(4, parent, HierShaper.BAD_PARENT);
        }
    }

    /** "a missing class": also the one that is just to be added. */
    private static void aMissingClassIsNoParent() {
        for (int parent : Family.MISSING) {
            refused(4, parent, HierShaper.BAD_PARENT);
        }
    }

    /** "and any id outside 0..15)" */
    private static void anIdOutsideIsNoParent() {
        for (int parent : Edges.OUTSIDE_IDS) {
            refused(4, parent, HierShaper.BAD_PARENT);
        }
    }

    /** A parent that was refused is taken once it is an inner class. */
    private static void aParentIsTakenOnceItExists() {
        for (int parent = 1; parent <= 15; parent += 14) {
            HierShaper x = new HierShaper(256, 4, 2);
            due.is("addLeaf(4, " + parent + ", 1, 1)", x.addLeaf(4, parent, 1, 1), HierShaper.BAD_PARENT);
            due.is("kind(4)", x.kind(4), HierShaper.KIND_NONE);
            x.addInner(parent, 1, 1);
            due.is("addLeaf(4, " + parent + ", 1, 1)", x.addLeaf(4, parent, 1, 1), HierShaper.OK);
            due.is("kind(4)", x.kind(4), HierShaper.KIND_LEAF);
        }
    }

    private static void clamped(int rate, int ceil, long dueRate, long dueCeil) {
        for (int depth = 1; depth <= 16; depth += 15) {
            String call = "addLeaf(3, 1, " + rate + ", " + ceil + ")";
            HierShaper x = new HierShaper(256, 4, depth);
            x.addInner(1, 10, 20);
            due.is(call, x.addLeaf(3, 1, rate, ceil), HierShaper.OK);
            due.buckets(call + " at depth " + depth, x, 3, dueRate * depth, dueCeil * depth);
        }
    }

    /** "rate into 1..65536" */
    private static void rateIsClamped() {
        for (int[] row : Edges.RATES) {
            clamped(row[0], 65536, row[1], 65536);
        }
    }

    /** "ceil into r..65536 with r the clamped rate" */
    private static void ceilIsClamped() {
        for (int[] row : Edges.CEILS) {
            clamped(row[0], row[1], row[2], row[3]);
        }
    }

    /** The clamped rate and ceil are also what a tick adds. A leaf's queue cannot outrun the upper ends. */
    private static void theLeastRatesRefill() {
        for (int[] row : Edges.LOW_RATES) {
            HierShaper x = Shapers.oneLeaf(row[0], row[1], 16);
            Sends.offer(x, 2, 100);
            due.is("run(1)", x.run(1), 1);
            due.buckets("sent", x, 2, 16 * row[2] - 1600, 16 * row[3] - 1600);
            x.run(10);
            due.buckets("10 ticks later", x, 2, 26 * row[2] - 1600, 26 * row[3] - 1600);
        }
    }

    /** "priority 0": first among priorities 1, and in turn with others of priority 0. */
    private static void priorityStartsAtZero() {
        HierShaper x = Shapers.wide(3, 5, 8);
        x.setLeafSched(3, 0, 256);
        x.setLeafSched(5, 1, 256);
        x.setLeafSched(8, 0, 256);
        x.addLeaf(7, 1, 65536, 65536);
        for (int leaf : new int[] {3, 5, 7, 8}) {
            Sends.offer(x, leaf, 200, 200);
        }
        x.run(1);
        due.reads("the sends", Sends.lastLeaves(x, 8), "3 7 8 3 7 8 5 5");
    }

    /** "quantum 256" */
    private static void quantumStartsAt256() {
        HierShaper x = Shapers.wide(2);
        Sends.offer(x, 2, 1);
        x.run(1);
        due.is("deficit(2, 0)", x.deficit(2, 0), 255);
    }

    /** "empty queue", with room for all that the limit allows. */
    private static void theQueueStartsEmpty() {
        for (int limit = 1; limit <= 8; limit++) {
            HierShaper x = Shapers.wideWithLimit(limit, 15);
            due.is("queueLength(15)", x.queueLength(15), 0);
            due.is("queuedBytes(15)", x.queuedBytes(15), 0);
            due.is("run(1) on an empty queue", x.run(1), 0);
            for (int i = 0; i < limit; i++) {
                due.is("enqueue(15, 9)", x.enqueue(15, 9), HierShaper.OK);
            }
            due.is("enqueue(15, 9) beyond the limit", x.enqueue(15, 9), HierShaper.DROPPED);
        }
    }

    /** "D(id,0) = D(id,1) = D(id,2) = 0", "sentBytes = 0, droppedBytes = 0", also late in a run. */
    private static void countersStartAtZero() {
        HierShaper x = Family.starved();
        for (int id : Family.MISSING) {
            due.is("addLeaf(" + id + ", 7, 50, 60)", x.addLeaf(id, 7, 50, 60), HierShaper.OK);
            for (int level = 0; level <= 2; level++) {
                due.is("deficit(" + id + ", " + level + ")", x.deficit(id, level), 0);
            }
            due.is("sentBytes(" + id + ")", x.sentBytes(id), 0);
            due.is("droppedBytes(" + id + ")", x.droppedBytes(id), 0);
            due.is("queueLength(" + id + ")", x.queueLength(id), 0);
            due.buckets("added late", x, id, 100, 120);
        }
    }

    /** "its parent is parent": the one whose buckets and bytes its packets draw on, and no other. */
    private static void theLeafHangsUnderItsParent() {
        for (int parent = 1; parent <= 15; parent += 14) {
            int other = 16 - parent;
            HierShaper x = new HierShaper(65536, 8, 1);
            x.addInner(1, 1000, 1000);
            x.addInner(15, 1000, 1000);
            x.addLeaf(3, parent, 500, 500);
            x.addLeaf(4, other, 500, 500);
            Sends.offer(x, 3, 10);
            x.run(1);
            due.is("sentBytes of the parent", x.sentBytes(parent), 10);
            due.is("sentBytes of the other inner class", x.sentBytes(other), 0);
            due.buckets("parent", x, parent, 840, 840);
            due.buckets("other inner class", x, other, 1000, 1000);
        }
    }

    /** "The parent's buckets and sentBytes, all other classes, the pointers, the log and sendCount are unchanged." */
    private static void theRestIsUnchanged() {
        for (int parent : Family.INNERS) {
            for (int id : new int[] {4, 12}) {
                String call = "addLeaf(" + id + ", " + parent + ", 50, 60)";
                Twins.adds(due, call, id, x -> x.addLeaf(id, parent, 50, 60));
            }
        }
    }

    public static void main(String[] args) {
        idsFromOneToFifteenAreTaken();
        otherIdsAreBad();
        aBadIdComesBeforeABadParent();
        usedIdsExist();
        aUsedIdComesBeforeABadParent();
        theRootIsNoParent();
        aLeafIsNoParent();
        aMissingClassIsNoParent();
        anIdOutsideIsNoParent();
        aParentIsTakenOnceItExists();
        rateIsClamped();
        ceilIsClamped();
        theLeastRatesRefill();
        priorityStartsAtZero();
        quantumStartsAt256();
        theQueueStartsEmpty();
        countersStartAtZero();
        theLeafHangsUnderItsParent();
        theRestIsUnchanged();
        due.end();
    }
}
