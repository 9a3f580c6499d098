/** Shapers that more than one test starts from. */
final class Shapers {
    /** What loaded() holds: 14 leaves with 8 packets of 255 bytes each, 16 tokens a byte. */
    static final int LOAD_PACKETS = 14 * 8;
    static final long LOAD_TOKENS = LOAD_PACKETS * 4080L;

    private Shapers() {
    }

    /** One inner class, 1, and leaves under it, all so wide that every leaf stays green. */
    static HierShaper wide(int... leaves) {
        return wideWithLimit(8, leaves);
    }

    static HierShaper wideWithLimit(int queueLimit, int... leaves) {
        return under(new HierShaper(65536, queueLimit, 16), 65536, 65536, leaves);
    }

    /** The greatest load there can be, on leaves that never lack tokens of their own; the depth is 16. */
    static HierShaper loaded(int linkRate, int innerRate, int innerCeil) {
        int[] leaves = {2, 3, 4, 5, 6, 7, 8, 9, 10, 11, 12, 13, 14, 15};
        HierShaper x = under(new HierShaper(linkRate, 8, 16), innerRate, innerCeil, leaves);
        for (int leaf : leaves) {
            Sends.offerMany(x, leaf, 8, 255);
        }
        return x;
    }

    private static HierShaper under(HierShaper x, int innerRate, int innerCeil, int... leaves) {
        x.addInner(1, innerRate, innerCeil);
        for (int leaf : leaves) {
            x.addLeaf(leaf, 1, 65536, 65536);
        }
        return x;
    }

    /** Leaves under inner class 7 that all send at one lending level from now on, for thousands of ticks. */
    static HierShaper atLevel(int level, int... leaves) {
        HierShaper x = new HierShaper(65536, 8, 16);
        x.addInner(7, level == 2 ? 1 : 65536, 65536);
        for (int leaf : leaves) {
            x.addLeaf(leaf, 7, level == 0 ? 65536 : 1, 65536);
            if (level > 0) {
                x.enqueue(leaf, 255);
            }
        }
        x.run(1);
        return x;
    }

    /** A link and an inner class 1 without end, and under it one leaf, 2, that is the matter. */
    static HierShaper oneLeaf(int rate, int ceil, int depth) {
        HierShaper x = new HierShaper(65536, 8, depth);
        x.addInner(1, 65536, 65536);
        x.addLeaf(2, 1, rate, ceil);
        return x;
    }

    /** A link without end, an inner class 1 that is the matter, and under it a leaf, 2, without end. */
    static HierShaper oneInner(int rate, int ceil, int depth) {
        return under(new HierShaper(65536, 8, depth), rate, ceil, 2);
    }

    /** A link that is the matter, and under it an inner class, 1, and a leaf, 2, without end. */
    static HierShaper oneLink(int rate, int depth) {
        return under(new HierShaper(rate, 8, depth), 65536, 65536, 2);
    }

    /** Leaf 2 sent 2 bytes of its own and 255 borrowed ones a tick ago: its rate bucket is back at 0. */
    static HierShaper borrowingLeaf() {
        HierShaper x = oneLeaf(16, 32, 1);
        Sends.offer(x, 2, 2, 255);
        x.run(2);
        return x;
    }

    /** So did inner class 1, with 255 bytes borrowed from the link. */
    static HierShaper borrowingInner() {
        HierShaper x = new HierShaper(65536, 8, 1);
        x.addInner(1, 16, 32);
        x.addLeaf(2, 1, 1, 65536);
        Sends.offer(x, 2, 2, 255);
        x.run(2);
        return x;
    }
}
