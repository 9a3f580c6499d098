/** Shapers that more than one test starts from. */
final class Shapers {
    private Shapers() {
    }

    /** One inner class, 1, and leaves under it, all so wide that every leaf stays green. */
    static HierShaper wide(int... leaves) {
        return wideWithLimit(8, leaves);
    }

    static HierShaper wideWithLimit(int queueLimit, int... leaves) {
        HierShaper x = new HierShaper(65536, queueLimit, 16);
        x.addInner(1, 65536, 65536);
        for (int leaf : leaves) {
            x.addLeaf(leaf, 1, 65536, 65536);
        }
        return x;
    }

    /** Two inner classes with a leaf each, after a tick that left packets waiting, sent and dropped. */
    static HierShaper busy() {
        HierShaper x = new HierShaper(4000, 4, 2);
        x.addInner(1, 96, 192);
        x.addInner(7, 3000, 4000);
        x.addLeaf(2, 1, 64, 128);
        x.addLeaf(15, 7, 64, 3000);
        Sends.offer(x, 2, 10, 20, 30, 40, 50);
        Sends.offer(x, 15, 100, 101, 102, 103, 104);
        x.run(1);
        return x;
    }
}
