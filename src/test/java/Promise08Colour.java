/** Promise 8: the colour of a class. */
public final class Promise08Colour {
    private static final Due due = new Due("Promise08Colour");

    private static void missingClassesHaveNone() {
        HierShaper x = Shapers.wide(2, 15);
        int[] missing = {3, 14, -1, -2, 16, 17, 32, Integer.MIN_VALUE, Integer.MAX_VALUE};
        for (int id : missing) {
            due.is("colour(" + id + ")", x.colour(id), HierShaper.NO_CLASS);
        }
        int[] present = {0, 1, 2, 15};
        for (int id : present) {
            due.is("colour(" + id + ") of a full class", x.colour(id), HierShaper.GREEN);
        }
    }

    /** A packet of s bytes leaves the rate bucket at 160-16s and the ceil bucket at 320-16s. */
    private static void leafAndInner() {
        int[][] sizeAndDue = {
            {1, HierShaper.GREEN}, {9, HierShaper.GREEN}, {10, HierShaper.GREEN}, {11, HierShaper.YELLOW},
            {19, HierShaper.YELLOW}, {20, HierShaper.YELLOW}, {21, HierShaper.RED}, {255, HierShaper.RED}
        };
        for (int[] row : sizeAndDue) {
            HierShaper leafOnly = new HierShaper(65536, 8, 1);
            leafOnly.addInner(1, 65536, 65536);
            leafOnly.addLeaf(2, 1, 160, 320);
            leafOnly.enqueue(2, row[0]);
            leafOnly.run(1);
            due.is("colour(2) after " + row[0] + " bytes", leafOnly.colour(2), row[1]);
            due.is("colour(1), wide", leafOnly.colour(1), HierShaper.GREEN);

            HierShaper innerOnly = new HierShaper(65536, 8, 1);
            innerOnly.addInner(1, 160, 320);
            innerOnly.addLeaf(2, 1, 65536, 65536);
            innerOnly.enqueue(2, row[0]);
            innerOnly.run(1);
            due.is("colour(1) after " + row[0] + " bytes", innerOnly.colour(1), row[1]);
            due.is("colour(2), wide", innerOnly.colour(2), HierShaper.GREEN);
        }
    }

    private static void rootIsGreenOrRed() {
        int[][] sizeAndDue = {
            {1, HierShaper.GREEN}, {19, HierShaper.GREEN}, {20, HierShaper.GREEN}, {21, HierShaper.RED},
            {255, HierShaper.RED}
        };
        for (int[] row : sizeAndDue) {
            HierShaper x = new HierShaper(320, 8, 1);
            x.addInner(1, 65536, 65536);
            x.addLeaf(2, 1, 65536, 65536);
            x.enqueue(2, row[0]);
            x.run(1);
            due.is("colour(0) after " + row[0] + " bytes", x.colour(0), row[1]);
        }
    }

    /** In debt on both buckets a class is red; the ceil bucket recovers first, then the rate bucket. */
    private static void coloursFollowTheBuckets() {
        HierShaper x = new HierShaper(65536, 8, 1);
        x.addInner(1, 65536, 65536);
        x.addLeaf(2, 1, 16, 32);
        x.enqueue(2, 5);
        x.run(1);
        int[] colours = {
            HierShaper.RED, HierShaper.RED, HierShaper.YELLOW, HierShaper.YELLOW, HierShaper.GREEN, HierShaper.GREEN
        };
        long[] tokens = {16 - 80, 32 - 80, 48 - 80, 64 - 80, 0, 16};
        for (int i = 0; i < colours.length; i++) {
            due.is("tokens(2), " + i + " ticks later", x.tokens(2), tokens[i]);
            due.is("colour(2), " + i + " ticks later", x.colour(2), colours[i]);
            x.run(1);
        }
    }

    /** A debt of a single token counts, and so does a bucket of exactly 0, the other way. */
    private static void theEdgeIsOneToken() {
        for (int debt = 0; debt <= 1; debt++) {
            int rate = 160 - debt;
            HierShaper x = new HierShaper(rate, 8, 1);
            x.addInner(1, rate, 65536);
            x.addInner(2, 65536, 65536);
            x.addLeaf(3, 1, 65536, 65536);
            x.addLeaf(4, 2, rate, rate);
            x.enqueue(3, 10);
            x.run(1);
            due.is("colour(0) at " + -debt, x.colour(0), debt == 0 ? HierShaper.GREEN : HierShaper.RED);
            due.is("colour(1) at " + -debt, x.colour(1), debt == 0 ? HierShaper.GREEN : HierShaper.YELLOW);
            x.run(1);
            x.enqueue(4, 10);
            x.run(1);
            due.is("colour(4) at " + -debt, x.colour(4), debt == 0 ? HierShaper.GREEN : HierShaper.RED);
        }
    }

    private static void askingChangesNothing() {
        HierShaper x = Shapers.busy();
        long[] before = View.of(x);
        for (int id = -1; id <= 16; id++) {
            x.colour(id);
        }
        due.sameView("after asking", View.of(x), before);
    }

    public static void main(String[] args) {
        missingClassesHaveNone();
        leafAndInner();
        rootIsGreenOrRed();
        coloursFollowTheBuckets();
        theEdgeIsOneToken();
        askingChangesNothing();
        due.end();
    }
}
