/** Promise 13: deficits. Above each test stand the words of the document it holds the program to. */
public final class Promise13Deficits {
    private static final Due due = new Due("Promise13Deficits");

    /** "`deficit(int id, int level)` answers D(id, level)": one packet at each level shows in that level alone. */
    private static void everyLevelHasItsOwn() {
        for (int leaf = 2; leaf <= 15; leaf++) {
            HierShaper x = new HierShaper(1000, 8, 1);
            x.addInner(1, 200, 700);
            x.addLeaf(leaf, 1, 100, 600);
            Sends.offer(x, leaf, 10, 11, 12);
            for (int level = 0; level <= 2; level++) {
                due.is("deficit(" + leaf + ", " + level + ") before a send", x.deficit(leaf, level), 0);
            }
            due.is("run(1)", x.run(1), 3);
            for (int level = 0; level <= 2; level++) {
                due.is("deficit(" + leaf + ", " + level + ")", x.deficit(leaf, level), 246 - level);
            }
        }
    }

    private static void leavesAreApart() {
        HierShaper x = Shapers.wide(2, 3, 4);
        x.setLeafSched(3, 0, 500);
        Sends.offer(x, 2, 1);
        Sends.offer(x, 3, 255);
        x.run(1);
        due.is("deficit(2, 0)", x.deficit(2, 0), 255);
        due.is("deficit(3, 0)", x.deficit(3, 0), 245);
        due.is("deficit(4, 0)", x.deficit(4, 0), 0);
    }

    /** "Answers -1 if id is not an existing leaf", at real levels and at others. */
    private static void othersHaveNone() {
        HierShaper x = Family.worn();
        for (int id : Family.NOT_LEAVES) {
            for (int level = -1; level <= 3; level++) {
                due.is("deficit(" + id + ", " + level + ")", x.deficit(id, level), -1);
            }
        }
    }

    /** "or if level is outside 0..2": next to the ends, and where other leaves' deficits might stand. */
    private static void otherLevelsHaveNone() {
        HierShaper x = Family.worn();
        int[] wrongLevels = {
            -1, 3, -2, 4, -3, 5, 6, 15, 16, 256, 257, -256, 65536, Integer.MIN_VALUE, Integer.MIN_VALUE + 1,
            Integer.MAX_VALUE
        };
        for (int leaf : Family.LEAVES) {
            for (int level : wrongLevels) {
                due.is("deficit(" + leaf + ", " + level + ")", x.deficit(leaf, level), -1);
            }
            for (int level = 0; level <= 2; level++) {
                due.holds("deficit(" + leaf + ", " + level + ") is a real one", x.deficit(leaf, level) >= 0);
            }
        }
    }

    /** "A real deficit is never negative.": the least quantum, 256, is above the greatest packet, 255. */
    private static void neverBelowZero() {
        HierShaper x = Shapers.wide(2);
        int want = 0;
        for (int i = 0; i < 600; i++) {
            int size = i % 3 == 0 ? 255 : 1 + i % 255;
            x.enqueue(2, size);
            x.run(1);
            want = want < size ? want - size + 256 : want - size;
            due.is("deficit(2, 0) after packet " + i, x.deficit(2, 0), want);
            due.holds("a deficit is not below 0", x.deficit(2, 0) >= 0);
        }
    }

    /** The least and the greatest deficits that a turn can end with, at every level. */
    private static void theLeastAndTheGreatest() {
        for (int level = 0; level <= 2; level++) {
            HierShaper least = Shapers.atLevel(level, 2);
            Sends.offer(least, 2, 255);
            least.run(1);
            due.is("deficit(2, " + level + "), overdrawn by 255", least.deficit(2, level), 1);
            Sends.offer(least, 2, 1);
            least.run(1);
            due.is("deficit(2, " + level + "), just spent", least.deficit(2, level), 0);
            HierShaper greatest = Shapers.atLevel(level, 2);
            greatest.setLeafSched(2, 0, 2048);
            Sends.offer(greatest, 2, 1);
            greatest.run(1);
            due.is("deficit(2, " + level + "), overdrawn by 1", greatest.deficit(2, level), 2047);
        }
    }

    /** "It changes nothing." */
    private static void askingChangesNothing() {
        Twins.unchangedBy(due, "deficit", x -> {
            for (int id : Edges.ASKED_IDS) {
                for (int level = -1; level <= 3; level++) {
                    x.deficit(id, level);
                }
            }
        });
    }

    public static void main(String[] args) {
        everyLevelHasItsOwn();
        leavesAreApart();
        othersHaveNone();
        otherLevelsHaveNone();
        neverBelowZero();
        theLeastAndTheGreatest();
        askingChangesNothing();
        due.end();
    }
}
