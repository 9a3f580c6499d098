/**
 * Promise 6, the facts: "At every point in any sequence of calls on a fresh object, these facts hold". Above
 * each test stand the words of the document that it holds the program to. ModelRuns looks at them as well.
 */
public final class Promise06Facts {
    private static final Due due = new Due("Promise06Facts");

    /** "For every existing class x, ctokens(x) >= -4080": a bucket at 0 and the greatest packet just reach it. */
    private static void theDeepestDebt() {
        deepest("leaf", Shapers.oneLeaf(4080, 4080, 1), 2);
        deepest("leaf that borrows", Shapers.oneLeaf(1, 4080, 1), 2);
        deepest("inner class", Shapers.oneInner(4080, 4080, 1), 1);
        deepest("inner class of a low rate", Shapers.oneInner(1, 4080, 1), 1);
        deepest("root", Shapers.oneLink(4080, 1), 0);
    }

    private static void deepest(String what, HierShaper x, int id) {
        Sends.offerMany(x, 2, 8, 255);
        due.is(what + ": run(1), to 0 and to -4080", x.run(1), 2);
        due.is(what + ": ctokens(" + id + ")", x.ctokens(id), -4080);
        due.is(what + ": colour(" + id + ")", x.colour(id), HierShaper.RED);
        due.is(what + ": run(1), from 0 to -4080", x.run(1), 1);
        due.is(what + ": ctokens(" + id + ")", x.ctokens(id), -4080);
    }

    /** The rate bucket of a class has no such end. */
    private static void onlyTheCeilBucketIsHeld() {
        HierShaper x = Shapers.oneInner(1, 65536, 1);
        Sends.offerMany(x, 2, 8, 255);
        due.is("run(1)", x.run(1), 8);
        due.is("tokens(1)", x.tokens(1), 1 - 8 * 4080);
    }

    /** "16*sentBytes(x) <= ceil_x*(depth + n_x) + 4080", with all that a leaf can be offered, tick by tick. */
    private static void theCeilingHoldsUnderFullLoad() {
        int[] rates = {1, 255, 4080, 65536};
        for (int linkRate : new int[] {16, 4080, 65536}) {
            for (int depth : new int[] {1, 16}) {
                for (int rate : rates) {
                    for (int ceil : rates) {
                        fullLoad(linkRate, depth, rate, ceil);
                    }
                }
            }
        }
    }

    private static void fullLoad(int linkRate, int depth, int rate, int ceil) {
        HierShaper x = new HierShaper(linkRate, 8, depth);
        Facts facts = new Facts(due, new Program(x), linkRate, depth);
        String name = "HierShaper(" + linkRate + ", 8, " + depth + ") with " + rate + "/" + ceil;
        facts.added(1, rate, ceil, x.addInner(1, rate, ceil));
        facts.added(2, 65536, 65536, x.addInner(2, 65536, 65536));
        addLeaf(x, facts, 3, 1, 65536, 65536);
        addLeaf(x, facts, 4, 1, rate, ceil);
        addLeaf(x, facts, 5, 2, rate, ceil);
        for (int tick = 0; tick < 80; tick++) {
            if (tick == 40) {
                addLeaf(x, facts, 15, 2, rate, ceil);
            }
            for (int i = 0; i < 9; i++) {
                offer(x, facts, 3, 255);
                offer(x, facts, 4, 255);
                offer(x, facts, 5, 255);
                offer(x, facts, 15, 255);
            }
            facts.check(name);
            x.run(1);
            facts.ran(1);
            facts.check(name);
        }
    }

    private static void addLeaf(HierShaper x, Facts facts, int id, int parent, int rate, int ceil) {
        int answer = x.addLeaf(id, parent, rate, ceil);
        facts.added(id, rate, ceil, answer);
        facts.parent(id, parent, answer);
    }

    private static void offer(HierShaper x, Facts facts, int id, int size) {
        facts.offered(id, size, x.enqueue(id, size));
    }

    /** A class that sends all the time sends just as much as its ceiling gives: no more, and no less. */
    private static void theCeilingIsReached() {
        for (int ceil : new int[] {1, 16, 1000, 4080}) {
            HierShaper x = Shapers.oneLeaf(ceil, ceil, 16);
            for (int ticks = 1; ticks <= 300; ticks++) {
                Sends.offerMany(x, 2, 8, 255);
                x.run(1);
                // The refill of the first tick finds a full bucket, so it is lost.
                long given = (long) ceil * (16 + ticks - 1);
                due.is("16*sentBytes(2) + ctokens(2)", 16 * x.sentBytes(2) + x.ctokens(2), given);
                due.holds("what is left over is a debt, or the queue is empty",
                        x.ctokens(2) < 0 || x.queueLength(2) == 0);
            }
        }
    }

    /** Every answer of enqueue, and what each adds to "E = sentBytes(L) + droppedBytes(L) + queuedBytes(L)". */
    private static void bytesAreConserved() {
        HierShaper x = Shapers.oneLink(500, 1);
        long offered = 0;
        long dropped = 0;
        for (int i = 0; i < 2000; i++) {
            int size = i * 37 % 300 - 20;
            int answer = x.enqueue(2, size);
            boolean real = size >= 1 && size <= 255;
            due.holds("enqueue(2, " + size + ") is refused for its size alone",
                    real == (answer != HierShaper.BAD_SIZE));
            offered += real ? size : 0;
            dropped += answer == HierShaper.DROPPED ? size : 0;
            if (i % 3 == 0) {
                x.run(1);
            }
            due.is("sent, dropped and queued bytes", x.sentBytes(2) + x.droppedBytes(2) + x.queuedBytes(2),
                    offered);
            due.is("droppedBytes(2)", x.droppedBytes(2), dropped);
        }
        due.holds("packets were sent, dropped and kept waiting",
                x.sentBytes(2) > 0 && dropped > 0 && x.queuedBytes(2) > 0);
    }

    /** "sentBytes(I) is the sum of sentBytes over its leaves, and sentBytes(0) is the sum over all leaves." */
    private static void sentBytesAddUp() {
        HierShaper x = Family.worn();
        for (int tick = 0; tick < 300; tick++) {
            for (int leaf : Family.LEAVES) {
                Sends.offer(x, leaf, 1 + (leaf * 31 + tick * 17) % 255);
            }
            x.run(1);
            due.is("sentBytes(1)", x.sentBytes(1), x.sentBytes(2) + x.sentBytes(3) + x.sentBytes(5));
            due.is("sentBytes(7)", x.sentBytes(7), x.sentBytes(8) + x.sentBytes(9) + x.sentBytes(15));
            due.is("sentBytes(13)", x.sentBytes(13), x.sentBytes(14));
            due.is("sentBytes(0)", x.sentBytes(0), x.sentBytes(1) + x.sentBytes(7) + x.sentBytes(13));
        }
    }

    public static void main(String[] args) {
        theDeepestDebt();
        onlyTheCeilBucketIsHeld();
        theCeilingHoldsUnderFullLoad();
        theCeilingIsReached();
        bytesAreConserved();
        sentBytesAddUp();
        due.end();
    }
}
