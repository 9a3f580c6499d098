/**
 * Promise 6, whose turn it is (steps 2, 3 and 6 of ONE SEND). Above each test stand the words of the
 * document that it holds the program to.
 */
public final class Promise06Turns {
    private static final Due due = new Due("Promise06Turns");

    /** "v = the least lending level of any eligible leaf", whatever the priorities and the pointers are. */
    private static void levelComesFirst() {
        HierShaper x = new HierShaper(65536, 8, 16);
        x.addInner(1, 65536, 65536);
        x.addInner(4, 1, 65536);
        x.addLeaf(2, 1, 1, 65536);
        x.addLeaf(3, 1, 65536, 65536);
        x.addLeaf(5, 4, 1, 65536);
        x.setLeafSched(3, 3, 256);
        x.setLeafSched(2, 2, 256);
        x.setLeafSched(5, 0, 256);
        Sends.offer(x, 2, 100, 100);
        Sends.offer(x, 3, 100, 100);
        Sends.offer(x, 5, 100, 100);
        due.is("run(1)", x.run(1), 6);
        due.reads("the sends", Sends.last(x, 6), "5@0:100 2@0:100 3@0:100 3@0:100 2@1:100 5@2:100");
    }

    /** A level counts only if its leaf is eligible: green leaves that are empty or held do not hide others. */
    private static void levelsOfOtherLeavesDoNotCount() {
        HierShaper x = Shapers.atLevel(2, 3, 4);
        x.addInner(1, 1, 1);
        x.addLeaf(2, 1, 65536, 65536);
        x.addLeaf(5, 7, 65536, 65536);
        Sends.offer(x, 2, 255, 255);
        due.is("run(1), the packet that turns 1 red", x.run(1), 1);
        Sends.offer(x, 3, 100);
        due.is("run(1)", x.run(1), 1);
        due.reads("the send", Sends.last(x, 1), "3@2:100");
        due.is("colour(2), held by its parent", x.colour(2), HierShaper.GREEN);
        due.is("colour(5), without a packet", x.colour(5), HierShaper.GREEN);
    }

    /** "p = the least priority among the eligible leaves whose lending level is v": before any pointer. */
    private static void priorityComesBeforeThePointer() {
        for (int level = 0; level <= 2; level++) {
            HierShaper x = Shapers.atLevel(level, 3, 8, 14, 15);
            x.setLeafSched(3, 3, 256);
            x.setLeafSched(8, 2, 256);
            x.setLeafSched(14, 1, 256);
            for (int leaf : new int[] {3, 8, 14, 15}) {
                Sends.offer(x, leaf, 200, 200);
            }
            due.is("run(1)", x.run(1), 8);
            due.reads("the sends", Sends.lastLeaves(x, 8), "15 15 14 14 8 8 3 3");
        }
    }

    /** A priority counts only if its leaf is eligible and of level v. */
    private static void prioritiesOfOtherLeavesDoNotCount() {
        HierShaper x = Shapers.atLevel(1, 3, 4);
        x.addLeaf(5, 7, 65536, 65536);
        x.addLeaf(6, 7, 65536, 65536);
        x.setLeafSched(5, 3, 256);
        x.setLeafSched(6, 2, 256);
        Sends.offer(x, 3, 100);
        Sends.offer(x, 4, 100);
        Sends.offer(x, 5, 100);
        due.is("run(1)", x.run(1), 3);
        due.reads("the sends", Sends.last(x, 3), "5@0:100 3@1:100 4@1:100");
    }

    /**
     * "The ids P(v,p), P(v,p)+1, .., 15, then 1, 2, .., P(v,p)-1 are scanned in that order.": every leaf but
     * 7, the inner class, waits with a packet, and the scan starts next to the one that sent last.
     */
    private static void theScanGoesRoundFromEveryId() {
        int[] leaves = {1, 2, 3, 4, 5, 6, 8, 9, 10, 11, 12, 13, 14, 15};
        for (int level = 0; level <= 2; level++) {
            for (int last = 0; last < leaves.length; last++) {
                HierShaper x = Shapers.atLevel(level, leaves);
                Sends.offer(x, leaves[last], 200);
                x.run(1);
                StringBuilder want = new StringBuilder();
                for (int step = 1; step <= leaves.length; step++) {
                    int leaf = leaves[(last + step) % leaves.length];
                    Sends.offer(x, leaf, 20);
                    want.append(step == 1 ? "" : " ").append(leaf);
                }
                due.is("run(1)", x.run(1), leaves.length);
                due.reads("the sends after " + leaves[last], Sends.lastLeaves(x, leaves.length),
                        want.toString());
            }
        }
    }

    /** "the class at that id need not be a leaf or exist at all": the scan goes on from there. */
    private static void thePointerMayStandAnywhere() {
        for (int level = 0; level <= 2; level++) {
            comesNext("4, which does not exist", level, 3, 5, 3);
            comesNext("7, an inner class", level, 6, 9, 6);
            comesNext("6, a leaf without a packet", level, 5, 9, 3);
            comesNext("10, above which no leaf stands", level, 9, 3, 5);
        }
    }

    /** The first packet of a leaf overdraws its deficit of 0, so the pointer then stands right behind it. */
    private static void comesNext(String pointer, int level, int last, int first, int second) {
        HierShaper x = Shapers.atLevel(level, 3, 5, 6, 9);
        Sends.offer(x, last, 200);
        x.run(1);
        Sends.offer(x, second, 200);
        Sends.offer(x, first, 200);
        x.run(1);
        due.reads("the sends with the pointer at " + pointer, Sends.lastLeaves(x, 3),
                last + " " + first + " " + second);
    }

    /** A leaf that is added at the id where the pointer stands is the next one. */
    private static void aLeafAddedAtThePointerIsNext() {
        HierShaper x = Shapers.wide(3, 9);
        Sends.offer(x, 3, 200);
        x.run(1);
        x.addLeaf(2, 1, 65536, 65536);
        x.addLeaf(4, 1, 65536, 65536);
        for (int leaf : new int[] {2, 3, 4, 9}) {
            Sends.offer(x, leaf, 200);
        }
        x.run(1);
        due.reads("the sends", Sends.lastLeaves(x, 5), "3 4 9 2 3");
    }

    /** A leaf at the pointer that is red, or of another level or priority, is not in the group. */
    private static void thePointerMayStandAtALeafOutsideTheGroup() {
        HierShaper x = Shapers.wide(3, 5);
        x.addLeaf(4, 1, 1, 1);
        Sends.offer(x, 4, 255, 255);
        x.run(1);
        due.is("colour(4)", x.colour(4), HierShaper.RED);
        Sends.offer(x, 3, 200);
        x.run(1);
        Sends.offer(x, 3, 200);
        Sends.offer(x, 5, 200);
        x.run(1);
        due.reads("the sends past a red leaf", Sends.lastLeaves(x, 3), "3 5 3");
        x.addLeaf(6, 1, 65536, 65536);
        x.setLeafSched(6, 1, 256);
        Sends.offer(x, 5, 200);
        x.run(1);
        Sends.offer(x, 5, 200);
        Sends.offer(x, 6, 200);
        Sends.offer(x, 3, 200);
        x.run(1);
        due.reads("the sends past a leaf of priority 1", Sends.lastLeaves(x, 4), "5 3 5 6");
    }

    /** Sends a leaf's packets one by one until their sizes add up to bytes. */
    private static void spend(HierShaper x, int leaf, int bytes) {
        for (int left = bytes; left > 0; left -= 255) {
            Sends.offer(x, leaf, Math.min(left, 255));
            x.run(1);
        }
    }

    private static final int[] QUANTA = {256, 257, 2047, 2048};

    /** "D(L,v) -= s. If now D(L,v) < 0, then D(L,v) += quantum(L), and P(v,p) becomes L+1": at -1 already. */
    private static void aDeficitOfMinusOneEndsTheTurn() {
        for (int level = 0; level <= 2; level++) {
            for (int quantum : QUANTA) {
                HierShaper x = Shapers.atLevel(level, 3, 4);
                x.setLeafSched(3, 0, quantum);
                spend(x, 3, 100);
                due.is("deficit(3, " + level + ")", x.deficit(3, level), quantum - 100);
                spend(x, 3, quantum - 99);
                due.is("deficit(3, " + level + "), overdrawn by 1", x.deficit(3, level), quantum - 1);
                Sends.offer(x, 3, 1);
                Sends.offer(x, 4, 1);
                x.run(1);
                due.reads("the sends", Sends.lastLeaves(x, 2), "4 3");
            }
        }
    }

    /** "Otherwise P(v,p) becomes L": a deficit of exactly 0 keeps the turn and gets no quantum yet. */
    private static void aDeficitOfZeroKeepsTheTurn() {
        for (int level = 0; level <= 2; level++) {
            for (int quantum : QUANTA) {
                HierShaper x = Shapers.atLevel(level, 3, 4);
                x.setLeafSched(3, 0, quantum);
                spend(x, 3, 100);
                spend(x, 3, quantum - 100);
                due.is("deficit(3, " + level + "), just spent", x.deficit(3, level), 0);
                Sends.offer(x, 3, 1);
                Sends.offer(x, 4, 1);
                x.run(1);
                due.reads("the sends", Sends.lastLeaves(x, 2), "3 4");
                due.is("deficit(3, " + level + ")", x.deficit(3, level), quantum - 1);
            }
        }
    }

    /** "(or 1 if L is 15)", at every level and priority. */
    private static void afterFifteenComesOne() {
        for (int level = 0; level <= 2; level++) {
            for (int priority = 0; priority <= 3; priority++) {
                HierShaper x = Shapers.atLevel(level, 1, 14, 15);
                for (int leaf : new int[] {1, 14, 15}) {
                    x.setLeafSched(leaf, priority, 256);
                }
                Sends.offer(x, 15, 200);
                x.run(1);
                for (int leaf : new int[] {15, 14, 1}) {
                    Sends.offer(x, leaf, 200);
                }
                x.run(1);
                due.reads("the sends", Sends.lastLeaves(x, 4), "15 1 14 15");
            }
        }
    }

    /** Leaf 15 too keeps its turn while its deficit lasts. */
    private static void fifteenKeepsItsTurn() {
        for (int level = 0; level <= 2; level++) {
            HierShaper x = Shapers.atLevel(level, 1, 14, 15);
            spend(x, 15, 200);
            spend(x, 15, 56);
            Sends.offer(x, 1, 1);
            Sends.offer(x, 14, 1);
            Sends.offer(x, 15, 1);
            x.run(1);
            due.reads("the sends", Sends.lastLeaves(x, 3), "15 1 14");
        }
    }

    /** "(even if the scan started at a different id)": 9 is found from 10 on, and draws the pointer to itself. */
    private static void thePointerMovesToTheSender() {
        for (int level = 0; level <= 2; level++) {
            HierShaper x = Shapers.atLevel(level, 3, 5, 9);
            spend(x, 3, 100);
            spend(x, 9, 100);
            spend(x, 9, 100);
            for (int leaf : new int[] {3, 5, 9}) {
                Sends.offer(x, leaf, 100);
            }
            x.run(1);
            due.reads("the sends", Sends.lastLeaves(x, 6), "3 9 9 9 3 5");
        }
    }

    /** Equal quanta, packets of 100: turns grow to what the deficit allows. */
    private static void turnsOfTheDeficitRound() {
        HierShaper x = Shapers.wide(3, 4);
        Sends.offerMany(x, 3, 8, 100);
        Sends.offerMany(x, 4, 8, 100);
        due.is("run(1)", x.run(1), 16);
        due.reads("the sends", Sends.lastLeaves(x, 16), "3 4 3 3 4 4 3 3 3 4 4 4 3 3 4 4");
        due.is("deficit(3, 0)", x.deficit(3, 0), 4 * 256 - 800);
        due.is("deficit(4, 0)", x.deficit(4, 0), 4 * 256 - 800);
    }

    private static void aWiderQuantumSendsMore() {
        HierShaper x = Shapers.wide(3, 4);
        x.setLeafSched(4, 0, 512);
        Sends.offerMany(x, 3, 8, 255);
        Sends.offerMany(x, 4, 8, 255);
        due.is("run(1)", x.run(1), 16);
        due.reads("the sends", Sends.lastLeaves(x, 16), "3 4 3 4 4 3 4 4 3 4 4 3 4 3 3 3");
        due.is("deficit(3, 0)", x.deficit(3, 0), 8);
        due.is("deficit(4, 0)", x.deficit(4, 0), 8);
    }

    /** "Only the deficit D(L,v) of the chosen leaf at the used level" changes in a send. */
    private static void otherDeficitsAreUntouched() {
        HierShaper x = Family.worn();
        for (int leaf : new int[] {2, 3, 8, 9, 15}) {
            x.run(64);
            long[] before = View.of(x);
            int sends = x.sendCount();
            Sends.offer(x, leaf, 20);
            x.run(1);
            due.is("sends of leaf " + leaf, x.sendCount() - sends, 1);
            int level = x.logEntry(0) >> 4 & 3;
            for (int id = 1; id <= 15; id++) {
                for (int v = 0; v <= 2; v++) {
                    boolean used = id == leaf && v == level;
                    long was = before[View.deficitPlace(id, v)];
                    due.holds("deficit(" + id + ", " + v + ") is " + (used ? "spent" : "untouched") + " by leaf "
                            + leaf, used == (x.deficit(id, v) != was));
                }
            }
        }
    }

    /**
     * "only the pointer P(v,p) of the used level and priority": leaf 9 and then leaf 8 send at one level and
     * priority, which leaves that pointer at 9; at another level or priority 8 still comes before 9.
     */
    private static void otherPointersAreUntouched() {
        for (int p = 0; p <= 3; p++) {
            for (int q = 0; q <= 3; q++) {
                HierShaper x = new HierShaper(65536, 8, 16);
                x.addInner(1, 800, 65536);
                x.addLeaf(2, 1, 65536, 65536);
                x.addLeaf(8, 1, 1, 65536);
                x.addLeaf(9, 1, 1, 65536);
                sendAt(x, p, 9);
                sendAt(x, p, 8);
                sendAt(x, q, 9, 8);
                sendAt(x, q, 8);
                due.reads("the sends of levels 0 and 1, priorities " + p + " and " + q, Sends.last(x, 5),
                        "9@0:200 8@0:200 8@1:200 9@1:200 8@1:200");
                Sends.offerMany(x, 2, 8, 255);
                x.run(1);
                sendAt(x, p, 9, 8);
                due.reads("the sends of level 2, priority " + p, Sends.last(x, 2), "8@2:200 9@2:200");
            }
        }
    }

    private static void sendAt(HierShaper x, int priority, int... leaves) {
        for (int leaf : leaves) {
            x.setLeafSched(leaf, priority, 256);
            x.enqueue(leaf, 200);
        }
        due.is("run(1)", x.run(1), leaves.length);
    }

    /** "Deficits persist across idle periods.", and so do the turns. */
    private static void deficitsOutliveIdleTicks() {
        for (int level = 0; level <= 2; level++) {
            HierShaper x = Shapers.atLevel(level, 3, 4);
            spend(x, 3, 100);
            spend(x, 3, 100);
            for (int i = 0; i < 40; i++) {
                due.is("run(64)", x.run(64), 0);
            }
            due.is("deficit(3, " + level + ")", x.deficit(3, level), 56);
            due.is("deficit(4, " + level + ")", x.deficit(4, level), 0);
            Sends.offer(x, 3, 56, 1);
            Sends.offer(x, 4, 1);
            x.run(1);
            due.reads("the sends", Sends.lastLeaves(x, 3), "3 3 4");
        }
    }

    /** "Priorities, quanta, droppedBytes and the set of classes never change in `run`." */
    private static void runLeavesTheClassesAsTheyAre() {
        HierShaper x = Family.starved();
        Sends.offer(x, 15, 30);
        long[] before = View.of(x);
        for (int i = 0; i < 100; i++) {
            x.run(64);
        }
        for (int id = 0; id <= 15; id++) {
            due.is("kind(" + id + ")", x.kind(id), before[View.placeOf("kind", id)]);
            due.is("droppedBytes(" + id + ")", x.droppedBytes(id), before[View.placeOf("droppedBytes", id)]);
        }
        HierShaper again = Shapers.wide(2, 3, 4);
        again.setLeafSched(2, 3, 2048);
        again.setLeafSched(3, 2, 300);
        for (int round = 0; round < 20; round++) {
            Sends.offer(again, 2, 255, 255);
            Sends.offer(again, 3, 255, 255);
            Sends.offer(again, 4, 255, 255);
            again.run(64);
            due.reads("the sends of round " + round, Sends.lastLeaves(again, 6), "4 4 3 3 2 2");
        }
        due.is("deficit(2, 0)", again.deficit(2, 0), 5 * 2048 - 40 * 255);
        due.is("deficit(3, 0)", again.deficit(3, 0), 34 * 300 - 40 * 255);
    }

    public static void main(String[] args) {
        levelComesFirst();
        levelsOfOtherLeavesDoNotCount();
        priorityComesBeforeThePointer();
        prioritiesOfOtherLeavesDoNotCount();
        theScanGoesRoundFromEveryId();
        thePointerMayStandAnywhere();
        aLeafAddedAtThePointerIsNext();
        thePointerMayStandAtALeafOutsideTheGroup();
        aDeficitOfMinusOneEndsTheTurn();
        aDeficitOfZeroKeepsTheTurn();
        afterFifteenComesOne();
        fifteenKeepsItsTurn();
        thePointerMovesToTheSender();
        turnsOfTheDeficitRound();
        aWiderQuantumSendsMore();
        otherDeficitsAreUntouched();
        otherPointersAreUntouched();
        deficitsOutliveIdleTicks();
        runLeavesTheClassesAsTheyAre();
        due.end();
    }
}
