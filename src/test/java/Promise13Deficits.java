/** Promise 13: deficits. */
public final class Promise13Deficits {
    private static final Due due = new Due("Promise13Deficits");

    /** One packet at each level, of its own size, shows in the deficit of that level alone. */
    private static void everyLevelHasItsOwn() {
        for (int leaf = 2; leaf <= 15; leaf++) {
            HierShaper x = new HierShaper(1000, 8, 1);
            x.addInner(1, 200, 700);
            x.addLeaf(leaf, 1, 100, 600);
            Sends.offer(x, leaf, 10, 11, 12);
            for (int level = 0; level <= 2; level++) {
                due.is("deficit(" + leaf + ", " + level + ") before a send", x.deficit(leaf, level), 0);
            }
            due.is("run(1)", x.run(1), 3);
            for (int level = 0; level <= 2; level++) {
                due.is("deficit(" + leaf + ", " + level + ")", x.deficit(leaf, level), 246 - level);
            }
        }
    }

    private static void leavesAreApart() {
        HierShaper x = Shapers.wide(2, 3, 4);
        x.setLeafSched(3, 0, 500);
        Sends.offer(x, 2, 1);
        Sends.offer(x, 3, 255);
        x.run(1);
        due.is("deficit(2, 0)", x.deficit(2, 0), 255);
        due.is("deficit(3, 0)", x.deficit(3, 0), 245);
        due.is("deficit(4, 0)", x.deficit(4, 0), 0);
    }

    /** The least quantum, 256, is above the greatest packet, so a real deficit ends at 1 or more. */
    private static void neverBelowZero() {
        HierShaper x = Shapers.wide(2);
        int want = 0;
        for (int i = 0; i < 600; i++) {
            int size = i % 3 == 0 ? 255 : 1 + i % 255;
            x.enqueue(2, size);
            x.run(1);
            want = want < size ? want - size + 256 : want - size;
            due.is("deficit(2, 0) after packet " + i, x.deficit(2, 0), want);
            due.holds("a deficit is not below 0", x.deficit(2, 0) >= 0);
        }
    }

    private static void wrongIdsAndLevels() {
        HierShaper x = Shapers.busy();
        long[] before = View.of(x);
        int[] wrongLevels = {-1, -2, -3, 3, 4, 16, Integer.MIN_VALUE, Integer.MAX_VALUE};
        for (int level : wrongLevels) {
            due.is("deficit(2, " + level + ")", x.deficit(2, level), -1);
            due.is("deficit(15, " + level + ")", x.deficit(15, level), -1);
        }
        int[] notLeaves = {0, 1, 7, 3, 14, -1, -2, 16, 17, 18, 32, Integer.MIN_VALUE, Integer.MAX_VALUE};
        for (int id : notLeaves) {
            for (int level = -1; level <= 3; level++) {
                due.is("deficit(" + id + ", " + level + ")", x.deficit(id, level), -1);
            }
        }
        due.sameView("after asking", View.of(x), before);
    }

    public static void main(String[] args) {
        everyLevelHasItsOwn();
        leavesAreApart();
        neverBelowZero();
        wrongIdsAndLevels();
        due.end();
    }
}
