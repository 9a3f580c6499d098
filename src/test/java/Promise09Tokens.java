/** Promise 9: token counts. Above each test stand the words of the document it holds the program to. */
public final class Promise09Tokens {
    private static final Due due = new Due("Promise09Tokens");

    /** "`tokens(int id)` answers T(id)", "`ctokens(int id)` answers CT(id)": each of its own bucket. */
    private static void countsOfEveryKind() {
        HierShaper x = new HierShaper(1000, 8, 4);
        x.addInner(1, 30, 50);
        x.addLeaf(15, 1, 20, 40);
        due.buckets("full", x, 0, 4000, 4000);
        due.buckets("full", x, 1, 120, 200);
        due.buckets("full", x, 15, 80, 160);
        x.enqueue(15, 255);
        x.run(1);
        due.buckets("after a send", x, 0, 4000 - 4080, 4000 - 4080);
        due.buckets("after a send", x, 1, 120 - 4080, 200 - 4080);
        due.buckets("after a send", x, 15, 80 - 4080, 160 - 4080);
    }

    /** "for the root, B": both calls answer the same, whatever happens. */
    private static void theRootHasOneBucket() {
        HierShaper x = Family.rested();
        for (int tick = 0; tick < 200; tick++) {
            for (int leaf : Family.LEAVES) {
                Sends.offer(x, leaf, 1 + (leaf * 41 + tick * 23) % 255);
            }
            x.run(1);
            due.is("ctokens(0)", x.ctokens(0), x.tokens(0));
        }
    }

    /** "Each answers 0 if the class does not exist (this includes any id outside 0..15)." */
    private static void missingClassesCountZero() {
        HierShaper x = Family.worn();
        HierShaper full = Shapers.loaded(16, 1, 1);
        for (int id : Family.NO_CLASSES) {
            due.buckets("missing", x, id, 0, 0);
        }
        for (int id : Edges.OUTSIDE_IDS) {
            due.buckets("outside a full tree", full, id, 0, 0);
        }
    }

    /** "The answers may be negative.": a debt of one token, and the greatest debt of a packet. */
    private static void answersMayBeNegative() {
        HierShaper x = Shapers.oneLeaf(159, 159, 1);
        Sends.offer(x, 2, 10);
        x.run(1);
        due.buckets("a debt of one", x, 2, -1, -1);
        HierShaper deepest = Shapers.oneLeaf(16, 16, 1);
        Sends.offer(deepest, 2, 1, 255);
        deepest.run(1);
        due.buckets("a packet's debt", deepest, 2, -4080, -4080);
    }

    /** "Buckets have no lower bound": 33,000 full ticks draw a rate bucket below what an int can hold. */
    private static void countsAreLongs() {
        HierShaper x = Shapers.oneInner(1, 65536, 1);
        x.addLeaf(3, 1, 65536, 65536);
        long want = 1;
        for (int tick = 0; tick < 33_000; tick++) {
            Sends.offerMany(x, 2, 8, 255);
            Sends.offerMany(x, 3, 8, 255);
            int sent = x.run(1);
            want = Math.min(want + 1, 1) - 4080L * sent;
        }
        due.is("tokens(1)", x.tokens(1), want);
        due.holds("tokens(1) is below the least int", want < Integer.MIN_VALUE);
        due.is("colour(1)", x.colour(1), HierShaper.YELLOW);
    }

    /** The greatest count there is. */
    private static void theFullestBuckets() {
        HierShaper x = Shapers.wide(2);
        for (int id = 0; id <= 2; id++) {
            due.buckets("full", x, id, 1048576, 1048576);
        }
        x.run(64);
        for (int id = 0; id <= 2; id++) {
            due.buckets("full, 64 ticks later", x, id, 1048576, 1048576);
        }
    }

    /** "Neither changes anything." */
    private static void askingChangesNothing() {
        Twins.unchangedBy(due, "tokens and ctokens", x -> {
            for (int id : Edges.ASKED_IDS) {
                x.tokens(id);
                x.ctokens(id);
            }
        });
    }

    public static void main(String[] args) {
        countsOfEveryKind();
        theRootHasOneBucket();
        missingClassesCountZero();
        answersMayBeNegative();
        countsAreLongs();
        theFullestBuckets();
        askingChangesNothing();
        due.end();
    }
}
