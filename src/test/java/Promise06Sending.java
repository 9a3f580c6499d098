/** Promise 6, one send after the other: who may send, who is next, and what it costs. */
public final class Promise06Sending {
    private static final Due due = new Due("Promise06Sending");

    /** Three packets of 10 bytes: on the leaf's own rate, on the inner class's, on the link's. */
    private static void chargingByLevel() {
        HierShaper x = new HierShaper(1000, 8, 1);
        x.addInner(1, 200, 700);
        x.addInner(9, 5, 6);
        x.addLeaf(2, 1, 100, 600);
        x.addLeaf(3, 1, 7, 8);
        Sends.offer(x, 2, 10, 10, 10);
        due.is("run(1)", x.run(1), 3);
        due.reads("the sends", Sends.last(x, 3), "2@0:10 2@1:10 2@2:10");
        due.buckets("after three levels", x, 2, 100 - 160, 600 - 480);
        due.buckets("after three levels", x, 1, 200 - 320, 700 - 480);
        due.buckets("after three levels", x, 0, 1000 - 480, 1000 - 480);
        due.buckets("off the path", x, 3, 7, 8);
        due.buckets("off the path", x, 9, 5, 6);
        due.is("sentBytes(2)", x.sentBytes(2), 30);
        due.is("sentBytes(1)", x.sentBytes(1), 30);
        due.is("sentBytes(0)", x.sentBytes(0), 30);
        due.is("sentBytes(3)", x.sentBytes(3), 0);
        due.is("sentBytes(9)", x.sentBytes(9), 0);
        for (int level = 0; level <= 2; level++) {
            due.is("deficit(2, " + level + ")", x.deficit(2, level), 246);
            due.is("deficit(3, " + level + ")", x.deficit(3, level), 0);
        }
    }

    /** A green leaf needs no green parent: level 0 sends draw the inner rate bucket ever lower. */
    private static void aGreenLeafUnderAYellowParent() {
        HierShaper x = new HierShaper(65536, 8, 16);
        x.addInner(1, 1, 65536);
        x.addLeaf(2, 1, 65536, 65536);
        Sends.offer(x, 2, 255, 255, 255);
        due.is("run(1)", x.run(1), 3);
        due.reads("the sends", Sends.last(x, 3), "2@0:255 2@0:255 2@0:255");
        due.is("colour(1)", x.colour(1), HierShaper.YELLOW);
        due.is("tokens(1)", x.tokens(1), 16 - 3 * 4080);
    }

    /** A bucket of exactly 0 is not in debt: neither yellow nor red. */
    private static void zeroIsNotInDebt() {
        HierShaper x = new HierShaper(32, 8, 1);
        x.addInner(1, 32, 32);
        x.addLeaf(2, 1, 32, 32);
        Sends.offer(x, 2, 2, 1, 1);
        due.is("run(1)", x.run(1), 2);
        due.reads("the sends", Sends.last(x, 2), "2@0:2 2@0:1");
        due.buckets("at the end", x, 2, -16, -16);
    }

    private static void aRedLeafWaits() {
        HierShaper x = new HierShaper(65536, 8, 16);
        x.addInner(1, 65536, 65536);
        x.addLeaf(2, 1, 1, 1);
        x.addLeaf(3, 1, 65536, 65536);
        Sends.offer(x, 2, 2, 2);
        Sends.offer(x, 3, 2, 2);
        due.is("run(1)", x.run(1), 3);
        due.reads("the sends", Sends.lastLeaves(x, 3), "2 3 3");
        due.is("colour(2)", x.colour(2), HierShaper.RED);
        due.is("queueLength(2)", x.queueLength(2), 1);
        due.is("run(15), still in debt", x.run(15), 0);
        due.is("run(1), out of debt", x.run(1), 1);
    }

    private static void aRedInnerClassHoldsItsLeaves() {
        HierShaper x = new HierShaper(65536, 8, 16);
        x.addInner(1, 1, 1);
        x.addInner(4, 65536, 65536);
        x.addLeaf(2, 1, 65536, 65536);
        x.addLeaf(3, 1, 65536, 65536);
        x.addLeaf(5, 4, 65536, 65536);
        Sends.offer(x, 2, 2, 2);
        Sends.offer(x, 3, 2);
        Sends.offer(x, 5, 2, 2);
        due.is("run(1)", x.run(1), 3);
        due.reads("the sends", Sends.lastLeaves(x, 3), "2 5 5");
        due.is("colour(1)", x.colour(1), HierShaper.RED);
        due.is("colour(3)", x.colour(3), HierShaper.GREEN);
    }

    private static void aRedRootHoldsAll() {
        HierShaper x = new HierShaper(16, 8, 1);
        x.addInner(1, 65536, 65536);
        x.addInner(4, 65536, 65536);
        x.addLeaf(2, 1, 65536, 65536);
        x.addLeaf(5, 4, 65536, 65536);
        Sends.offer(x, 2, 3, 3);
        Sends.offer(x, 5, 3, 3);
        due.is("run(1)", x.run(1), 1);
        due.is("colour(0)", x.colour(0), HierShaper.RED);
        due.is("run(1), at -16", x.run(1), 0);
        due.is("run(1), at 0", x.run(1), 1);
        due.reads("the sends", Sends.last(x, 2), "2@0:3 5@0:3");
    }

    /** Leaf 3 of priority 3 sends on its own rate before leaf 2 of priority 0 may borrow. */
    private static void levelComesBeforePriority() {
        HierShaper x = new HierShaper(65536, 8, 16);
        x.addInner(1, 65536, 65536);
        x.addInner(4, 1, 65536);
        x.addLeaf(2, 1, 1, 65536);
        x.addLeaf(3, 1, 65536, 65536);
        x.addLeaf(5, 4, 1, 65536);
        x.setLeafSched(3, 3, 256);
        x.setLeafSched(2, 2, 256);
        x.setLeafSched(5, 0, 256);
        Sends.offer(x, 2, 100, 100);
        Sends.offer(x, 3, 100, 100);
        Sends.offer(x, 5, 100, 100);
        due.is("run(1)", x.run(1), 6);
        due.reads("the sends", Sends.last(x, 6), "5@0:100 2@0:100 3@0:100 3@0:100 2@1:100 5@2:100");
    }

    private static void priorityComesBeforeThePointer() {
        HierShaper x = Shapers.wide(3, 8, 14, 15);
        x.setLeafSched(3, 3, 256);
        x.setLeafSched(8, 2, 256);
        x.setLeafSched(14, 1, 256);
        for (int leaf : new int[] {3, 8, 14, 15}) {
            Sends.offer(x, leaf, 200, 200);
        }
        due.is("run(1)", x.run(1), 8);
        due.reads("the sends", Sends.lastLeaves(x, 8), "15 15 14 14 8 8 3 3");
    }

    /** Equal quanta, packets of 100: turns grow to what the deficit allows. */
    private static void turnsOfTheDeficitRound() {
        HierShaper x = Shapers.wide(3, 4);
        Sends.offerMany(x, 3, 8, 100);
        Sends.offerMany(x, 4, 8, 100);
        due.is("run(1)", x.run(1), 16);
        due.reads("the sends", Sends.lastLeaves(x, 16), "3 4 3 3 4 4 3 3 3 4 4 4 3 3 4 4");
        due.is("deficit(3, 0)", x.deficit(3, 0), 4 * 256 - 800);
        due.is("deficit(4, 0)", x.deficit(4, 0), 4 * 256 - 800);
        x.run(64);
        due.is("deficit(3, 0) after idle ticks", x.deficit(3, 0), 224);
    }

    private static void aWiderQuantumSendsMore() {
        HierShaper x = Shapers.wide(3, 4);
        x.setLeafSched(4, 0, 512);
        Sends.offerMany(x, 3, 8, 255);
        Sends.offerMany(x, 4, 8, 255);
        due.is("run(1)", x.run(1), 16);
        due.reads("the sends", Sends.lastLeaves(x, 16), "3 4 3 4 4 3 4 4 3 4 4 3 4 3 3 3");
        due.is("deficit(3, 0)", x.deficit(3, 0), 8);
        due.is("deficit(4, 0)", x.deficit(4, 0), 8);
    }

    /** A deficit of exactly 0 is not below 0: the leaf keeps its turn and gets no quantum yet. */
    private static void aDeficitSpentToZeroKeepsTheTurn() {
        HierShaper x = Shapers.wide(3, 4);
        Sends.offer(x, 3, 100, 156, 1, 1);
        Sends.offer(x, 4, 100, 100);
        due.is("run(1)", x.run(1), 6);
        due.reads("the sends", Sends.last(x, 6), "3@0:100 4@0:100 3@0:156 3@0:1 4@0:100 3@0:1");
    }

    /** A leaf that the scan found away from the pointer, with deficit left, draws the pointer to itself. */
    private static void thePointerMovesToTheSender() {
        HierShaper x = Shapers.wide(3, 5, 9);
        Sends.offer(x, 3, 100);
        x.run(1);
        Sends.offer(x, 9, 100);
        x.run(1);
        Sends.offer(x, 9, 100);
        x.run(1);
        Sends.offer(x, 3, 100);
        Sends.offer(x, 5, 100);
        Sends.offer(x, 9, 100);
        x.run(1);
        due.reads("the sends", Sends.lastLeaves(x, 6), "3 9 9 9 3 5");
    }

    private static void afterFifteenComesOne() {
        HierShaper x = new HierShaper(65536, 8, 16);
        x.addInner(7, 65536, 65536);
        x.addLeaf(1, 7, 65536, 65536);
        x.addLeaf(14, 7, 65536, 65536);
        x.addLeaf(15, 7, 65536, 65536);
        Sends.offer(x, 15, 200);
        x.run(1);
        Sends.offer(x, 15, 200);
        Sends.offer(x, 14, 200);
        Sends.offer(x, 1, 200);
        x.run(1);
        due.reads("the sends", Sends.lastLeaves(x, 4), "15 1 14 15");
    }

    /** The scan goes round from every place: with the pointer at p, the order is p.., 15, 1, .., p-1. */
    private static void theScanStartsAtThePointer() {
        for (int last = 2; last <= 15; last++) {
            HierShaper x = Shapers.wide(2, 3, 4, 5, 6, 7, 8, 9, 10, 11, 12, 13, 14, 15);
            Sends.offer(x, last, 200);
            x.run(1);
            StringBuilder want = new StringBuilder();
            for (int step = 1; step <= 14; step++) {
                int leaf = (last - 2 + step) % 14 + 2;
                Sends.offer(x, leaf, 20);
                want.append(step == 1 ? "" : " ").append(leaf);
            }
            due.is("run(1)", x.run(1), 14);
            due.reads("the sends after " + last, Sends.lastLeaves(x, 14), want.toString());
        }
    }

    /** Leaves 3 and 4 go yellow at once; each level then has a pointer and a deficit of its own. */
    private static void levelsHaveTheirOwnPointersAndDeficits() {
        for (int level = 1; level <= 2; level++) {
            HierShaper x = new HierShaper(65536, 8, 16);
            x.addInner(1, level == 1 ? 65536 : 1, 65536);
            x.addLeaf(3, 1, 1, 65536);
            x.addLeaf(4, 1, 1, 65536);
            Sends.offer(x, 3, 100, 100, 100, 100);
            x.run(1);
            Sends.offer(x, 4, 100, 100, 100);
            x.run(1);
            Sends.offer(x, 3, 100);
            Sends.offer(x, 4, 100);
            x.run(1);
            String v = "@" + level + ":100";
            due.reads("the sends of level " + level, Sends.last(x, 9),
                    "3@0:100 3" + v + " 3" + v + " 3" + v + " 4@0:100 4" + v + " 4" + v + " 4" + v + " 3" + v);
            due.is("deficit(3, 0)", x.deficit(3, 0), 156);
            due.is("deficit(3, " + level + ")", x.deficit(3, level), 2 * 256 - 400);
            due.is("deficit(3, " + (3 - level) + ")", x.deficit(3, 3 - level), 0);
            due.is("deficit(4, " + level + ")", x.deficit(4, level), 2 * 256 - 300);
        }
    }

    /**
     * Leaf 9 and then leaf 8 send at one level and priority, which leaves that pointer at 9; at another
     * level or priority 8 still comes before 9.
     */
    private static void everyLevelAndPriorityHasItsOwnPointer() {
        for (int p = 0; p <= 3; p++) {
            for (int q = 0; q <= 3; q++) {
                HierShaper x = new HierShaper(65536, 8, 16);
                x.addInner(1, 800, 65536);
                x.addLeaf(2, 1, 65536, 65536);
                x.addLeaf(8, 1, 1, 65536);
                x.addLeaf(9, 1, 1, 65536);
                sendAt(x, p, 9);
                sendAt(x, p, 8);
                sendAt(x, q, 9, 8);
                sendAt(x, q, 8);
                due.reads("the sends of levels 0 and 1, priorities " + p + " and " + q, Sends.last(x, 5),
                        "9@0:200 8@0:200 8@1:200 9@1:200 8@1:200");
                Sends.offerMany(x, 2, 8, 255);
                x.run(1);
                sendAt(x, p, 9, 8);
                due.reads("the sends of level 2, priority " + p, Sends.last(x, 2), "8@2:200 9@2:200");
            }
        }
    }

    private static void sendAt(HierShaper x, int priority, int... leaves) {
        for (int leaf : leaves) {
            x.setLeafSched(leaf, priority, 256);
            x.enqueue(leaf, 200);
        }
        due.is("run(1)", x.run(1), leaves.length);
    }

    /** The first and the last id alone, at every priority and level. */
    private static void aLeafAloneIsFound() {
        for (int leaf = 1; leaf <= 15; leaf += 14) {
            for (int priority = 0; priority <= 3; priority++) {
                HierShaper x = new HierShaper(1000, 8, 1);
                x.addInner(8, 200, 700);
                x.addLeaf(leaf, 8, 100, 600);
                x.setLeafSched(leaf, priority, 256);
                Sends.offer(x, leaf, 10, 10, 10);
                due.is("run(1)", x.run(1), 3);
                due.reads("the sends", Sends.last(x, 3), leaf + "@0:10 " + leaf + "@1:10 " + leaf + "@2:10");
            }
        }
    }

    private static void aTickCanSendAllThereIs() {
        HierShaper x = Shapers.wide(2, 3, 4, 5, 6, 7, 8, 9, 10, 11, 12, 13, 14, 15);
        for (int leaf = 2; leaf <= 15; leaf++) {
            Sends.offerMany(x, leaf, 8, 255);
        }
        due.is("run(1)", x.run(1), 14 * 8);
        due.is("sentBytes(0)", x.sentBytes(0), 14 * 8 * 255);
        due.is("sentBytes(1)", x.sentBytes(1), 14 * 8 * 255);
        due.buckets("after 112 packets", x, 0, 1048576 - 112 * 4080, 1048576 - 112 * 4080);
        for (int leaf = 2; leaf <= 15; leaf++) {
            due.is("queueLength(" + leaf + ")", x.queueLength(leaf), 0);
            due.is("sentBytes(" + leaf + ")", x.sentBytes(leaf), 2040);
        }
    }

    public static void main(String[] args) {
        chargingByLevel();
        aGreenLeafUnderAYellowParent();
        zeroIsNotInDebt();
        aRedLeafWaits();
        aRedInnerClassHoldsItsLeaves();
        aRedRootHoldsAll();
        levelComesBeforePriority();
        priorityComesBeforeThePointer();
        turnsOfTheDeficitRound();
        aWiderQuantumSendsMore();
        aDeficitSpentToZeroKeepsTheTurn();
        thePointerMovesToTheSender();
        afterFifteenComesOne();
        theScanStartsAtThePointer();
        levelsHaveTheirOwnPointersAndDeficits();
        everyLevelAndPriorityHasItsOwnPointer();
        aLeafAloneIsFound();
        aTickCanSendAllThereIs();
        due.end();
    }
}
