/** Promise 6, the ticks and their refill: buckets grow by the rate and end at the capacity. */
public final class Promise06Refill {
    private static final Due due = new Due("Promise06Refill");

    /** Leaf 2 sends 80 tokens' worth and then every bucket climbs back by its own rate. */
    private static void bucketsGrowToTheirCapacity() {
        HierShaper x = new HierShaper(100, 8, 3);
        x.addInner(1, 10, 50);
        x.addLeaf(2, 1, 7, 20);
        x.enqueue(2, 5);
        due.is("run(1)", x.run(1), 1);
        due.buckets("tick 1", x, 0, 300 - 80, 300 - 80);
        due.buckets("tick 1", x, 1, 30 - 80, 150 - 80);
        due.buckets("tick 1", x, 2, 21 - 80, 60 - 80);
        due.is("run(1)", x.run(1), 0);
        due.buckets("tick 2", x, 0, 300, 300);
        due.buckets("tick 2", x, 1, -40, 120);
        due.buckets("tick 2", x, 2, -52, 0);
        due.is("run(1)", x.run(1), 0);
        due.buckets("tick 3", x, 1, -30, 150);
        due.buckets("tick 3", x, 2, -45, 20);
        due.is("run(2)", x.run(2), 0);
        due.buckets("tick 5", x, 1, -10, 150);
        due.buckets("tick 5", x, 2, -31, 60);
        due.is("run(4)", x.run(4), 0);
        due.buckets("tick 9", x, 0, 300, 300);
        due.buckets("tick 9", x, 1, 30, 150);
        due.buckets("tick 9", x, 2, -3, 60);
        due.is("run(4)", x.run(4), 0);
        due.buckets("tick 13", x, 2, 21, 60);
    }

    /** Every id is refilled, the first and the last as well, each by its own rates. */
    private static void everyClassIsRefilled() {
        for (int inner = 1; inner <= 15; inner += 7) {
            HierShaper x = new HierShaper(65536, 8, 16);
            x.addInner(inner, 2, 65536);
            for (int leaf = 1; leaf <= 15; leaf++) {
                if (leaf != inner) {
                    x.addLeaf(leaf, inner, leaf, 100 * leaf);
                    x.enqueue(leaf, 255);
                }
            }
            due.is("run(1)", x.run(1), 14);
            x.run(2);
            due.buckets("3 ticks", x, inner, 32 - 14 * 4080 + 4, 1048576);
            for (int leaf = 1; leaf <= 15; leaf++) {
                if (leaf != inner) {
                    long ctokens = Math.min(16 * 100 * leaf - 4080 + 200 * leaf, 1600 * leaf);
                    due.buckets("3 ticks", x, leaf, 16 * leaf - 4080 + 2 * leaf, ctokens);
                }
            }
        }
    }

    /** Each tick refills before it sends: a bucket at exactly 0 after the refill sends again. */
    private static void refillComesBeforeSending() {
        HierShaper x = new HierShaper(100, 8, 3);
        x.addInner(1, 10, 50);
        x.addLeaf(2, 1, 7, 20);
        Sends.offer(x, 2, 5, 1, 1);
        due.is("run(1)", x.run(1), 1);
        due.is("colour(2) at -20", x.colour(2), HierShaper.RED);
        due.is("run(1), refilled to 0", x.run(1), 1);
        due.buckets("tick 2", x, 0, 300 - 16, 300 - 16);
        due.buckets("tick 2", x, 1, -40, 120 - 16);
        due.buckets("tick 2", x, 2, -52, -16);
        due.reads("the sends", Sends.last(x, 2), "2@0:5 2@2:1");
        due.is("run(1), refilled to 4", x.run(1), 1);
        due.buckets("tick 3", x, 2, -45, 4 - 16);
    }

    /** A call of n ticks is n calls of one tick. */
    private static void ticksAddUp() {
        HierShaper many = Shapers.busy();
        HierShaper single = Shapers.busy();
        int sent = 0;
        for (int i = 0; i < 9; i++) {
            sent += single.run(1);
        }
        due.is("run(9)", many.run(9), sent);
        due.holds("packets are sent in those ticks", sent > 1);
        due.sameView("after 9 ticks", View.of(many), View.of(single));
    }

    private static void ticksAreLimited() {
        int[][] givenAndDue = {
            {1, 1}, {2, 2}, {63, 63}, {64, 64}, {65, 64}, {128, 64}, {1000, 64}, {Integer.MAX_VALUE, 64},
            {0, 0}, {-1, 0}, {-64, 0}, {Integer.MIN_VALUE, 0}
        };
        for (int[] row : givenAndDue) {
            HierShaper x = new HierShaper(65536, 8, 16);
            x.addInner(1, 1, 65536);
            x.addLeaf(2, 1, 65536, 65536);
            x.enqueue(2, 255);
            due.is("run(1)", x.run(1), 1);
            due.is("tokens(1)", x.tokens(1), 16 - 4080);
            due.is("run(" + row[0] + ")", x.run(row[0]), 0);
            due.is("tokens(1) after run(" + row[0] + ")", x.tokens(1), 16 - 4080 + row[1]);
        }
    }

    /** One packet a tick: the answer of run tells how many ticks passed. */
    private static void theAnswerCountsTheCall() {
        HierShaper x = new HierShaper(16, 8, 1);
        x.addInner(1, 65536, 65536);
        for (int leaf = 2; leaf <= 12; leaf++) {
            x.addLeaf(leaf, 1, 65536, 65536);
            Sends.offerMany(x, leaf, 8, 1);
        }
        due.is("run(1), a full bucket and the packet that overdraws it", x.run(1), 2);
        due.is("run(1)", x.run(1), 1);
        due.is("run(3)", x.run(3), 3);
        due.is("run(65)", x.run(65), 64);
        due.is("run(0)", x.run(0), 0);
        due.is("run(-1)", x.run(-1), 0);
        due.is("sendCount()", x.sendCount(), 70);
        due.is("run(64), packets run out", x.run(64), 18);
        due.is("run(64), none left", x.run(64), 0);
    }

    private static void noTicksChangeNothing() {
        HierShaper x = Shapers.busy();
        long[] before = View.of(x);
        int[] noTicks = {0, -1, -2, -64, Integer.MIN_VALUE};
        for (int ticks : noTicks) {
            due.is("run(" + ticks + ")", x.run(ticks), 0);
            due.sameView("after run(" + ticks + ")", View.of(x), before);
        }
    }

    public static void main(String[] args) {
        bucketsGrowToTheirCapacity();
        everyClassIsRefilled();
        refillComesBeforeSending();
        ticksAddUp();
        ticksAreLimited();
        theAnswerCountsTheCall();
        noTicksChangeNothing();
        due.end();
    }
}
