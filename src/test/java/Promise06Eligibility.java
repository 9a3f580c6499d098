/**
 * Promise 6, who may send, at which level, and what it costs ("Eligibility" and steps 1, 4 and 5 of ONE SEND).
 * Above each test stand the words of the document that it holds the program to.
 */
public final class Promise06Eligibility {
    private static final Due due = new Due("Promise06Eligibility");

    /** "A leaf L is eligible when its queue is not empty": green leaves without a packet are passed over. */
    private static void anEmptyQueueSendsNothing() {
        HierShaper x = Shapers.wide(2, 3, 4);
        due.is("run(1), all queues empty", x.run(1), 0);
        Sends.offer(x, 3, 10);
        due.is("run(1), one packet", x.run(1), 1);
        due.reads("the send", Sends.last(x, 1), "3@0:10");
        due.is("run(1), all queues empty again", x.run(1), 0);
        due.is("queueLength(3)", x.queueLength(3), 0);
    }

    /** Two packets of 10 bytes are offered; the first leaves the bucket in question at 0, or at -1. */
    private static void sendsUntilRed(String what, HierShaper x, int id, int debt) {
        Sends.offer(x, 2, 10, 10);
        due.is("run(1) with the " + what + " at " + -debt + " after a send", x.run(1), debt == 0 ? 2 : 1);
        due.is("ctokens(" + id + ")", x.ctokens(id), debt == 0 ? -160 : -1);
        due.is("colour(" + id + ")", x.colour(id), HierShaper.RED);
    }

    /** "and no class on its path is RED": the leaf itself, which is red below 0 only. */
    private static void aLeafAtZeroSends() {
        for (int debt = 0; debt <= 1; debt++) {
            sendsUntilRed("leaf's ceil bucket", Shapers.oneLeaf(160 - debt, 160 - debt, 1), 2, debt);
            sendsUntilRed("leaf's ceil bucket", Shapers.oneLeaf(1, 160 - debt, 1), 2, debt);
        }
    }

    /** The same of the inner class on the path. */
    private static void aLeafUnderAnInnerClassAtZeroSends() {
        for (int debt = 0; debt <= 1; debt++) {
            sendsUntilRed("inner ceil bucket", Shapers.oneInner(160 - debt, 160 - debt, 1), 1, debt);
            sendsUntilRed("inner ceil bucket", Shapers.oneInner(1, 160 - debt, 1), 1, debt);
        }
    }

    /** The same of the root. */
    private static void aLeafUnderARootAtZeroSends() {
        for (int debt = 0; debt <= 1; debt++) {
            sendsUntilRed("link's bucket", Shapers.oneLink(160 - debt, 1), 0, debt);
        }
    }

    private static void aRedLeafWaitsAlone() {
        HierShaper x = Shapers.wide(3);
        x.addLeaf(2, 1, 1, 1);
        Sends.offer(x, 2, 2, 2);
        Sends.offer(x, 3, 2, 2);
        due.is("run(1)", x.run(1), 3);
        due.reads("the sends", Sends.lastLeaves(x, 3), "2 3 3");
        due.is("colour(2)", x.colour(2), HierShaper.RED);
        due.is("queueLength(2)", x.queueLength(2), 1);
        due.is("run(15), still in debt", x.run(15), 0);
        due.is("run(1), out of debt", x.run(1), 1);
    }

    private static void aRedInnerClassHoldsItsLeavesAlone() {
        HierShaper x = Shapers.oneInner(1, 1, 16);
        x.addLeaf(3, 1, 65536, 65536);
        x.addInner(4, 65536, 65536);
        x.addLeaf(5, 4, 65536, 65536);
        Sends.offer(x, 2, 2, 2);
        Sends.offer(x, 3, 2);
        Sends.offer(x, 5, 2, 2);
        due.is("run(1)", x.run(1), 3);
        due.reads("the sends", Sends.lastLeaves(x, 3), "2 5 5");
        due.is("colour(1)", x.colour(1), HierShaper.RED);
        due.is("colour(3)", x.colour(3), HierShaper.GREEN);
    }

    private static void aRedRootHoldsAll() {
        HierShaper x = Shapers.oneLink(16, 1);
        x.addInner(4, 65536, 65536);
        x.addLeaf(5, 4, 65536, 65536);
        Sends.offer(x, 2, 3, 3);
        Sends.offer(x, 5, 3, 3);
        due.is("run(1)", x.run(1), 1);
        due.is("colour(0)", x.colour(0), HierShaper.RED);
        due.is("run(1), at -16", x.run(1), 0);
        due.is("run(1), at 0", x.run(1), 1);
        due.reads("the sends", Sends.last(x, 2), "2@0:3 5@0:3");
    }

    /** A red class holds its packets even where its rate bucket is at 0 or more. */
    private static void aRedClassWithTokensWaits() {
        HierShaper leaf = Shapers.borrowingLeaf();
        Sends.offer(leaf, 2, 1);
        due.is("run(1), the leaf red", leaf.run(1), 0);
        due.buckets("waiting", leaf, 2, 16, -4016);
        HierShaper inner = Shapers.borrowingInner();
        inner.addLeaf(3, 1, 65536, 65536);
        Sends.offer(inner, 3, 1);
        due.is("run(1), the inner class red", inner.run(1), 0);
        due.buckets("waiting", inner, 1, 16, -4016);
    }

    /** "Its lending level v(L) is 0 if L is GREEN": a rate bucket at 0 is green, at -1 it is not. */
    private static void aGreenLeafLendsFromItself() {
        for (int debt = 0; debt <= 1; debt++) {
            HierShaper x = Shapers.oneLeaf(160 - debt, 65536, 1);
            Sends.offer(x, 2, 10, 10);
            due.is("run(1)", x.run(1), 2);
            due.reads("the sends at " + -debt, Sends.last(x, 2), "2@0:10 2@" + debt + ":10");
        }
    }

    /** "else 1 if parent(L) is GREEN; else 2": the parent's rate bucket at 0, and at -1. */
    private static void aGreenParentLends() {
        for (int debt = 0; debt <= 1; debt++) {
            HierShaper x = new HierShaper(65536, 8, 1);
            x.addInner(1, 160 - debt, 65536);
            x.addLeaf(2, 1, 1, 65536);
            Sends.offer(x, 2, 10, 10);
            due.is("run(1)", x.run(1), 2);
            due.reads("the sends at " + -debt, Sends.last(x, 2), "2@0:10 2@" + (1 + debt) + ":10");
        }
    }

    /** A green leaf needs no green parent: its sends draw the inner rate bucket ever lower. */
    private static void aGreenLeafUnderAYellowParent() {
        HierShaper x = Shapers.oneInner(1, 65536, 16);
        Sends.offer(x, 2, 255, 255, 255);
        due.is("run(1)", x.run(1), 3);
        due.reads("the sends", Sends.last(x, 3), "2@0:255 2@0:255 2@0:255");
        due.is("colour(1)", x.colour(1), HierShaper.YELLOW);
        due.is("tokens(1)", x.tokens(1), 16 - 3 * 4080);
    }

    /** "Colours and eligibility are computed from the buckets as they are now": anew for each send of a tick. */
    private static void coloursAreTakenAnewForEachSend() {
        HierShaper x = new HierShaper(65536, 8, 1);
        x.addInner(1, 32, 64);
        x.addLeaf(2, 1, 16, 65536);
        x.addLeaf(3, 1, 16, 65536);
        Sends.offer(x, 2, 1, 1, 1, 1);
        Sends.offer(x, 3, 1, 1, 1, 1);
        due.is("run(1)", x.run(1), 5);
        due.reads("the sends", Sends.last(x, 5), "2@0:1 3@0:1 2@0:1 3@0:1 2@2:1");
        due.is("ctokens(1)", x.ctokens(1), -16);
    }

    /** "The head (oldest) packet of L, of s bytes, is removed from L's queue." */
    private static void theOldestPacketIsSent() {
        HierShaper x = Shapers.oneLink(16, 1);
        int[] sizes = {9, 1, 255, 4, 200, 4, 3, 2};
        Sends.offer(x, 2, sizes);
        long left = 9 + 1 + 255 + 4 + 200 + 4 + 3 + 2;
        for (int i = 0; i < sizes.length; i++) {
            for (int tick = 0; tick < 300 && x.sendCount() == i; tick++) {
                x.run(1);
            }
            left -= sizes[i];
            due.reads("send " + i, Sends.last(x, 1), "2@0:" + sizes[i]);
            due.is("queueLength(2)", x.queueLength(2), 7 - i);
            due.is("queuedBytes(2)", x.queuedBytes(2), left);
        }
    }

    /** Sends of 10 bytes at each of the three levels, on a leaf 2 of 100/600 and an inner class 1 of 200/700. */
    private static HierShaper lender() {
        HierShaper x = new HierShaper(1000, 8, 1);
        x.addInner(1, 200, 700);
        x.addInner(9, 5, 6);
        x.addLeaf(2, 1, 100, 600);
        x.addLeaf(3, 1, 7, 8);
        x.addLeaf(15, 9, 3, 4);
        return x;
    }

    /** "CT(L) -= k; if v == 0, also T(L) -= k. CT(I) -= k; if v <= 1, also T(I) -= k. B -= k." */
    private static void chargingByLevel() {
        long[][] leafInnerAndRoot = {
            {100 - 160, 600 - 160, 200 - 160, 700 - 160, 1000 - 160},
            {100 - 160, 600 - 320, 200 - 320, 700 - 320, 1000 - 320},
            {100 - 160, 600 - 480, 200 - 320, 700 - 480, 1000 - 480}
        };
        for (int level = 0; level <= 2; level++) {
            HierShaper x = lender();
            Sends.offerMany(x, 2, level + 1, 10);
            due.is("run(1)", x.run(1), level + 1);
            due.reads("the send", Sends.last(x, 1), "2@" + level + ":10");
            long[] want = leafInnerAndRoot[level];
            due.buckets("after level " + level, x, 2, want[0], want[1]);
            due.buckets("after level " + level, x, 1, want[2], want[3]);
            due.buckets("after level " + level, x, 0, want[4], want[4]);
        }
    }

    /** "Let k = 16*s": from the least packet to the greatest. */
    private static void everySizeCostsSixteenTokensAByte() {
        for (int size = 1; size <= 255; size++) {
            HierShaper x = Shapers.wide(2);
            Sends.offer(x, 2, size);
            due.is("run(1)", x.run(1), 1);
            for (int id = 0; id <= 2; id++) {
                due.buckets(size + " bytes", x, id, 1048576 - 16L * size, 1048576 - 16L * size);
            }
        }
    }

    /** "sentBytes of L, of I and of the root each grow by s." */
    private static void sentBytesGrowOnThePath() {
        HierShaper x = lender();
        Sends.offer(x, 2, 10, 11, 12);
        due.is("run(1)", x.run(1), 3);
        long[] want = {33, 33, 33, 0, 0, 0, 0, 0, 0, 0, 0, 0, 0, 0, 0, 0};
        for (int id = 0; id <= 15; id++) {
            due.is("sentBytes(" + id + ")", x.sentBytes(id), want[id]);
        }
    }

    /** "other leaves' queues and the buckets of classes off L's path are untouched" */
    private static void offThePathNothingIsTouched() {
        HierShaper x = lender();
        Sends.offer(x, 2, 10, 11, 12);
        Sends.offer(x, 3, 2);
        Sends.offer(x, 15, 1);
        due.is("run(1)", x.run(1), 5);
        Sends.offer(x, 2, 1);
        Sends.offer(x, 3, 50, 60);
        Sends.offer(x, 15, 70);
        long[] before = View.of(x);
        due.is("colour(3), which waits", x.colour(3), HierShaper.RED);
        due.is("colour(15), which waits", x.colour(15), HierShaper.RED);
        due.is("run(1)", x.run(1), 1);
        due.is("queueLength(3)", x.queueLength(3), 2);
        due.is("queuedBytes(3)", x.queuedBytes(3), 110);
        due.is("queuedBytes(15)", x.queuedBytes(15), 70);
        due.buckets("refilled only", x, 3, before[View.placeOf("tokens", 3)] + 7,
                before[View.placeOf("ctokens", 3)] + 8);
        due.buckets("refilled only", x, 15, before[View.placeOf("tokens", 15)] + 3,
                before[View.placeOf("ctokens", 15)] + 4);
        due.buckets("refilled only", x, 9, before[View.placeOf("tokens", 9)] + 5,
                before[View.placeOf("ctokens", 9)] + 6);
    }

    /** "ONE SEND is repeated while at least one leaf is eligible": to the last packet of the fullest tree. */
    private static void aTickSendsAllThatMayGo() {
        HierShaper x = Shapers.loaded(65536, 65536, 65536);
        due.is("run(1)", x.run(1), Shapers.LOAD_PACKETS);
        due.is("sentBytes(0)", x.sentBytes(0), 14 * 8 * 255);
        due.is("sentBytes(1)", x.sentBytes(1), 14 * 8 * 255);
        long left = 1048576 - Shapers.LOAD_TOKENS;
        due.buckets("after all packets", x, 0, left, left);
        for (int leaf = 2; leaf <= 15; leaf++) {
            due.is("queueLength(" + leaf + ")", x.queueLength(leaf), 0);
            due.is("sentBytes(" + leaf + ")", x.sentBytes(leaf), 2040);
        }
    }

    /** The first and the last id alone, at every priority and level. */
    private static void aLeafAloneIsFound() {
        for (int leaf = 1; leaf <= 15; leaf += 14) {
            for (int priority = 0; priority <= 3; priority++) {
                HierShaper x = new HierShaper(1000, 8, 1);
                x.addInner(8, 200, 700);
                x.addLeaf(leaf, 8, 100, 600);
                x.setLeafSched(leaf, priority, 256);
                Sends.offer(x, leaf, 10, 10, 10);
                due.is("run(1)", x.run(1), 3);
                due.reads("the sends", Sends.last(x, 3), leaf + "@0:10 " + leaf + "@1:10 " + leaf + "@2:10");
            }
        }
    }

    public static void main(String[] args) {
        anEmptyQueueSendsNothing();
        aLeafAtZeroSends();
        aLeafUnderAnInnerClassAtZeroSends();
        aLeafUnderARootAtZeroSends();
        aRedLeafWaitsAlone();
        aRedInnerClassHoldsItsLeavesAlone();
        aRedRootHoldsAll();
        aRedClassWithTokensWaits();
        aGreenLeafLendsFromItself();
        aGreenParentLends();
        aGreenLeafUnderAYellowParent();
        coloursAreTakenAnewForEachSend();
        theOldestPacketIsSent();
        chargingByLevel();
        everySizeCostsSixteenTokensAByte();
        sentBytesGrowOnThePath();
        offThePathNothingIsTouched();
        aTickSendsAllThatMayGo();
        aLeafAloneIsFound();
        due.end();
    }
}
