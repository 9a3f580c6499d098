/** Promise 9: token counts. */
public final class Promise09Tokens {
    private static final Due due = new Due("Promise09Tokens");

    private static void countsOfEveryKind() {
        HierShaper x = new HierShaper(1000, 8, 4);
        x.addInner(1, 30, 50);
        x.addLeaf(15, 1, 20, 40);
        long[][] idAndDue = {{0, 4000, 4000}, {1, 120, 200}, {15, 80, 160}};
        for (long[] row : idAndDue) {
            due.is("tokens(" + row[0] + ")", x.tokens((int) row[0]), row[1]);
            due.is("ctokens(" + row[0] + ")", x.ctokens((int) row[0]), row[2]);
        }
        x.enqueue(15, 255);
        x.run(1);
        for (long[] row : idAndDue) {
            due.is("tokens(" + row[0] + ") after a send", x.tokens((int) row[0]), row[1] - 4080);
            due.is("ctokens(" + row[0] + ") after a send", x.ctokens((int) row[0]), row[2] - 4080);
        }
    }

    private static void missingClassesCountZero() {
        HierShaper x = Shapers.busy();
        int[] missing = {3, 14, -1, -2, -7, 16, 17, 23, 32, Integer.MIN_VALUE, Integer.MAX_VALUE};
        for (int id : missing) {
            due.is("tokens(" + id + ")", x.tokens(id), 0);
            due.is("ctokens(" + id + ")", x.ctokens(id), 0);
        }
    }

    /** 33,000 full ticks on a rate of one token draw the bucket below what an int can hold. */
    private static void countsAreLongs() {
        HierShaper x = new HierShaper(65536, 8, 1);
        x.addInner(1, 1, 65536);
        x.addLeaf(2, 1, 65536, 65536);
        x.addLeaf(3, 1, 65536, 65536);
        long want = 1;
        for (int tick = 0; tick < 33_000; tick++) {
            Sends.offerMany(x, 2, 8, 255);
            Sends.offerMany(x, 3, 8, 255);
            int sent = x.run(1);
            want = Math.min(want + 1, 1) - 4080L * sent;
        }
        due.is("tokens(1)", x.tokens(1), want);
        due.holds("tokens(1) is below the least int", want < Integer.MIN_VALUE);
        due.is("colour(1)", x.colour(1), HierShaper.YELLOW);
    }

    private static void askingChangesNothing() {
        HierShaper x = Shapers.busy();
        long[] before = View.of(x);
        for (int id = -1; id <= 16; id++) {
            x.tokens(id);
            x.ctokens(id);
        }
        due.sameView("after asking", View.of(x), before);
    }

    public static void main(String[] args) {
        countsOfEveryKind();
        missingClassesCountZero();
        countsAreLongs();
        askingChangesNothing();
        due.end();
    }
}
