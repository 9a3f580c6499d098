import java.util.List;
import java.util.function.Consumer;

/** One tree in several states, each made by the same calls every time, on the program or on the model. */
final class Family {
    static final int[] INNERS = {1, 7, 13};
    static final int[] LEAVES = {2, 3, 5, 8, 9, 14, 15};
    static final int[] MISSING = {4, 6, 10, 11, 12};
    /** All that is no leaf: the root, inner classes, missing classes and ids outside 0..15. */
    static final int[] NOT_LEAVES = Edges.join(new int[] {0}, INNERS, MISSING, Edges.OUTSIDE_IDS);
    static final int[] NO_CLASSES = Edges.join(MISSING, Edges.OUTSIDE_IDS);

    static final int QUEUE_LIMIT = 3;

    /** A state: what the constructor is given, and the calls that follow. */
    record State(String name, int linkRate, int depth, Consumer<Shaper> calls) {
        HierShaper program() {
            HierShaper x = new HierShaper(linkRate, QUEUE_LIMIT, depth);
            calls.accept(new Program(x));
            return x;
        }

        Model model() {
            Model x = new Model(linkRate, QUEUE_LIMIT, depth);
            calls.accept(x);
            return x;
        }
    }

    static final State RESTED = new State("rested", 3000, 2, Family::addAll);
    static final State WORN = new State("worn", 3000, 2, Family::wear);
    static final State STARVED = new State("starved", 3000, 2, Family::starve);
    static final List<State> STATES = List.of(RESTED, WORN, STARVED,
            new State("at level 0", 65536, 16, x -> lend(x, 0)),
            new State("at level 1", 65536, 16, x -> lend(x, 1)),
            new State("at level 2", 65536, 16, x -> lend(x, 2)));

    private Family() {
    }

    static HierShaper rested() {
        return RESTED.program();
    }

    static HierShaper worn() {
        return WORN.program();
    }

    static HierShaper starved() {
        return STARVED.program();
    }

    /** The priority and quantum that a leaf has in every state. */
    static void setOwnSched(Shaper x, int leaf) {
        x.setLeafSched(leaf, leaf % 4, 256 + 64 * leaf);
    }

    /** Full buckets and no packet. */
    private static void addAll(Shaper x) {
        x.addInner(1, 1500, 3000);
        x.addInner(7, 40, 2500);
        x.addInner(13, 5, 9);
        x.addLeaf(2, 1, 500, 2000);
        x.addLeaf(3, 1, 1, 3000);
        x.addLeaf(5, 1, 30, 40);
        x.addLeaf(8, 7, 10, 2000);
        x.addLeaf(9, 7, 2000, 2500);
        x.addLeaf(14, 13, 3, 65536);
        x.addLeaf(15, 7, 1, 65536);
        setOwnScheds(x);
    }

    private static void setOwnScheds(Shaper x) {
        for (int leaf : LEAVES) {
            setOwnSched(x, leaf);
        }
    }

    /** Pointers moved, deficits left at all levels, more sends than the log holds, some packets waiting. */
    private static void wear(Shaper x) {
        addAll(x);
        for (int priority = 3; priority >= 0; priority--) {
            for (int leaf : LEAVES) {
                x.setLeafSched(leaf, priority, 256 + 100 * priority);
            }
            for (int round = 0; round < 6; round++) {
                for (int leaf : LEAVES) {
                    x.enqueue(leaf, 1 + (leaf * 37 + round * 91 + priority * 13) % 255);
                }
                x.run(3);
            }
        }
        x.run(8);
        setOwnScheds(x);
        for (int leaf : LEAVES) {
            x.enqueue(leaf, 10 * leaf);
        }
    }

    /** The root in debt, and every queue full. */
    private static void starve(Shaper x) {
        wear(x);
        for (int tick = 0; tick < 4; tick++) {
            fillQueues(x, tick);
            x.run(1);
        }
        fillQueues(x, 4);
    }

    private static void fillQueues(Shaper x, int round) {
        for (int leaf : LEAVES) {
            for (int i = 0; i < QUEUE_LIMIT; i++) {
                x.enqueue(leaf, 200 + 10 * round + leaf);
            }
        }
    }

    /** All leaves at one lending level, and the pointer of each priority there at another leaf. */
    private static void lend(Shaper x, int level) {
        for (int inner : INNERS) {
            x.addInner(inner, level == 2 ? 1 : 65536, 65536);
        }
        for (int leaf : LEAVES) {
            x.addLeaf(leaf, leaf == 14 ? 13 : leaf < 7 ? 1 : 7, level == 0 ? 65536 : 1, 65536);
            x.enqueue(leaf, 255);
        }
        x.run(1);
        for (int priority = 0; priority <= 3; priority++) {
            int leaf = LEAVES[1 + (level + priority) % 6];
            x.setLeafSched(leaf, priority, 256);
            x.enqueue(leaf, 10);
            x.run(1);
            x.enqueue(leaf, 10);
            x.run(1);
        }
        setOwnScheds(x);
    }
}
