/** Promise 8: the colour of a class. Above each test stand the words it holds the program to. */
public final class Promise08Colour {
    private static final Due due = new Due("Promise08Colour");

    private static void spent(String what, HierShaper x, int id, long tokens, long ctokens, int colour) {
        Sends.offer(x, 2, 10);
        due.is("run(1)", x.run(1), 1);
        due.buckets(what, x, id, tokens, ctokens);
        due.is(what + ": colour(" + id + ") at " + tokens + "/" + ctokens, x.colour(id), colour);
    }

    /** "Inner or leaf class: RED if CT < 0": at -1. */
    private static void redBelowZero() {
        spent("leaf", Shapers.oneLeaf(159, 159, 1), 2, -1, -1, HierShaper.RED);
        spent("leaf", Shapers.oneLeaf(1, 159, 1), 2, -159, -1, HierShaper.RED);
        spent("inner class", Shapers.oneInner(159, 159, 1), 1, -1, -1, HierShaper.RED);
        spent("inner class", Shapers.oneInner(1, 159, 1), 1, -159, -1, HierShaper.RED);
    }

    /** A ceil bucket at 0 or 1 is not red. */
    private static void notRedFromZeroOn() {
        spent("leaf", Shapers.oneLeaf(1, 160, 1), 2, -159, 0, HierShaper.YELLOW);
        spent("leaf", Shapers.oneLeaf(1, 161, 1), 2, -159, 1, HierShaper.YELLOW);
        spent("inner class", Shapers.oneInner(1, 160, 1), 1, -159, 0, HierShaper.YELLOW);
        spent("inner class", Shapers.oneInner(1, 161, 1), 1, -159, 1, HierShaper.YELLOW);
    }

    /** "else GREEN if T >= 0": at 0, and at 1, with the ceil bucket no higher or far above. */
    private static void greenFromZeroOn() {
        spent("leaf", Shapers.oneLeaf(160, 160, 1), 2, 0, 0, HierShaper.GREEN);
        spent("leaf", Shapers.oneLeaf(160, 65536, 1), 2, 0, 65376, HierShaper.GREEN);
        spent("leaf", Shapers.oneLeaf(161, 161, 1), 2, 1, 1, HierShaper.GREEN);
        spent("inner class", Shapers.oneInner(160, 160, 1), 1, 0, 0, HierShaper.GREEN);
        spent("inner class", Shapers.oneInner(160, 65536, 1), 1, 0, 65376, HierShaper.GREEN);
        spent("inner class", Shapers.oneInner(161, 161, 1), 1, 1, 1, HierShaper.GREEN);
    }

    /** "else YELLOW": at -1. */
    private static void yellowBelowZero() {
        spent("leaf", Shapers.oneLeaf(159, 160, 1), 2, -1, 0, HierShaper.YELLOW);
        spent("leaf", Shapers.oneLeaf(159, 65536, 1), 2, -1, 65376, HierShaper.YELLOW);
        spent("inner class", Shapers.oneInner(159, 160, 1), 1, -1, 0, HierShaper.YELLOW);
        spent("inner class", Shapers.oneInner(159, 65536, 1), 1, -1, 65376, HierShaper.YELLOW);
    }

    /** "RED if CT < 0" comes first: a class that has borrowed is red even with its rate bucket at 0 or more. */
    private static void redComesBeforeGreen() {
        HierShaper leaf = Shapers.borrowingLeaf();
        due.buckets("a leaf", leaf, 2, 0, -4048);
        due.is("colour(2)", leaf.colour(2), HierShaper.RED);
        HierShaper inner = Shapers.borrowingInner();
        due.buckets("an inner class", inner, 1, 0, -4048);
        due.is("colour(1)", inner.colour(1), HierShaper.RED);
        leaf.run(1);
        inner.run(1);
        due.buckets("a leaf", leaf, 2, 16, -4016);
        due.is("colour(2)", leaf.colour(2), HierShaper.RED);
        due.buckets("an inner class", inner, 1, 16, -4016);
        due.is("colour(1)", inner.colour(1), HierShaper.RED);
    }

    /** "Root: GREEN if B >= 0; else RED.", and "The root is only ever `GREEN` or `RED`." */
    private static void theRootIsGreenOrRed() {
        spent("root", Shapers.oneLink(161, 1), 0, 1, 1, HierShaper.GREEN);
        spent("root", Shapers.oneLink(160, 1), 0, 0, 0, HierShaper.GREEN);
        spent("root", Shapers.oneLink(159, 1), 0, -1, -1, HierShaper.RED);
        HierShaper x = Shapers.oneLink(16, 2);
        Sends.offer(x, 2, 200);
        x.run(1);
        for (int tick = 0; tick < 250; tick++) {
            due.is("colour(0) at " + x.tokens(0), x.colour(0),
                    x.tokens(0) < 0 ? HierShaper.RED : HierShaper.GREEN);
            x.run(1);
        }
        due.is("colour(0) in the end", x.colour(0), HierShaper.GREEN);
    }

    /** "It is computed from the present buckets whenever it is needed.": the ceil bucket recovers first. */
    private static void coloursFollowTheBuckets() {
        HierShaper x = Shapers.oneLeaf(16, 32, 1);
        Sends.offer(x, 2, 5);
        x.run(1);
        int[] colours = {
            HierShaper.RED, HierShaper.RED, HierShaper.YELLOW, HierShaper.YELLOW, HierShaper.GREEN, HierShaper.GREEN
        };
        long[] tokens = {16 - 80, 32 - 80, 48 - 80, 64 - 80, 0, 16};
        for (int i = 0; i < colours.length; i++) {
            due.is("tokens(2), " + i + " ticks later", x.tokens(2), tokens[i]);
            due.is("colour(2), " + i + " ticks later", x.colour(2), colours[i]);
            x.run(1);
        }
    }

    /** A new class is green, at the ends of all ranges. */
    private static void fullClassesAreGreen() {
        for (int rate : new int[] {1, 65536}) {
            for (int depth : new int[] {1, 16}) {
                HierShaper x = Shapers.oneLeaf(rate, rate, depth);
                for (int id = 0; id <= 2; id++) {
                    due.is("colour(" + id + ")", x.colour(id), HierShaper.GREEN);
                }
            }
        }
    }

    /** "or `NO_CLASS` if the class does not exist (this includes any id outside 0..15)" */
    private static void missingClassesHaveNone() {
        HierShaper x = Family.worn();
        for (int id : Family.NO_CLASSES) {
            due.is("colour(" + id + ")", x.colour(id), HierShaper.NO_CLASS);
        }
    }

    /** "It changes nothing." */
    private static void askingChangesNothing() {
        Twins.unchangedBy(due, "colour", x -> {
            for (int id : Edges.ASKED_IDS) {
                x.colour(id);
            }
        });
    }

    public static void main(String[] args) {
        redBelowZero();
        notRedFromZeroOn();
        greenFromZeroOn();
        yellowBelowZero();
        redComesBeforeGreen();
        theRootIsGreenOrRed();
        coloursFollowTheBuckets();
        fullClassesAreGreen();
        missingClassesHaveNone();
        askingChangesNothing();
        due.end();
    }
}
