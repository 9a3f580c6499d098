import java.util.List;
import java.util.function.Consumer;
import java.util.function.Supplier;
import java.util.function.ToIntFunction;
import java.util.function.UnaryOperator;

/**
 * Two shapers made alike, one of which has had a call more. The same calls follow on both, so that a
 * difference in what no call answers (pointers, priorities, quanta, rates, the order of a queue) shows.
 */
final class Twins {
    private static final List<Supplier<HierShaper>> STATES =
            List.of(Family::rested, Family::worn, Family::starved);
    /** 0: the classes as they are; 1 to 4: all leaves at one priority; 5 to 8: so too, on a tree filled up. */
    private static final int FUTURES = 9;
    private static final int ROUNDS = 30;
    private static final int NEW_INNER = 6;
    private static final int NONE = 99;

    private final Due due;
    private final String call;
    private final HierShaper touched;
    private final HierShaper untouched;
    private final int leftAlone;
    private final UnaryOperator<long[]> compared;
    private boolean apart = false;

    private Twins(Due due, String call, Supplier<HierShaper> state, Consumer<HierShaper> made, int leftAlone,
            UnaryOperator<long[]> compared) {
        this.due = due;
        this.call = call;
        this.leftAlone = leftAlone;
        this.compared = compared;
        touched = state.get();
        untouched = state.get();
        made.accept(touched);
    }

    /** The call is refused with the answer that is due, and changes nothing at all. */
    static void refused(Due due, String call, int want, ToIntFunction<HierShaper> made) {
        unchangedBy(due, call, x -> due.is(call, made.applyAsInt(x), want));
    }

    /** The calls change nothing at all. */
    static void unchangedBy(Due due, String calls, Consumer<HierShaper> made) {
        for (Supplier<HierShaper> state : STATES) {
            compareFutures(due, calls, state, made, NONE, view -> view);
        }
    }

    /** The call makes class id, and all that has nothing to do with that class goes on as without it. */
    static void adds(Due due, String call, int id, ToIntFunction<HierShaper> made) {
        for (Supplier<HierShaper> state : STATES) {
            compareFutures(due, call, state, x -> due.is(call, made.applyAsInt(x), HierShaper.OK), id,
                    view -> View.without(id, view));
        }
    }

    /** On a full queue the packet is dropped, and nothing but the leaf's droppedBytes is changed. */
    static void drops(Due due, int leaf, int size) {
        String call = "enqueue(" + leaf + ", " + size + ")";
        compareFutures(due, call, Family::starved,
                x -> due.is(call, x.enqueue(leaf, size), HierShaper.DROPPED), NONE, view -> {
                    view[View.placeOf("droppedBytes", leaf)] = 0;
                    return view;
                });
    }

    private static void compareFutures(Due due, String call, Supplier<HierShaper> state,
            Consumer<HierShaper> made, int leftAlone, UnaryOperator<long[]> compared) {
        for (int future = 0; future < FUTURES; future++) {
            new Twins(due, call, state, made, leftAlone, compared).live(future);
        }
    }

    private void live(int future) {
        compareViews("right after");
        if (future > 4) {
            fillTheTree();
        }
        if (future > 0) {
            setPriorities((future - 1) % 4);
        }
        for (int round = 0; round < ROUNDS && !apart; round++) {
            offerToAll(round);
            int ticks = 1 + round % 3;
            both("run(" + ticks + ")", x -> x.run(ticks));
            compareViews("in round " + round + " of future " + future + " after");
        }
    }

    private void fillTheTree() {
        both("addInner(" + NEW_INNER + ", 2000, 65536)", x -> x.addInner(NEW_INNER, 2000, 65536));
        for (int id = 1; id <= 15; id++) {
            int leaf = id;
            if (id != leftAlone) {
                both("addLeaf(" + id + ", ..)", x -> x.addLeaf(leaf, NEW_INNER, leaf, 65536));
            }
        }
    }

    private void setPriorities(int priority) {
        for (int id = 1; id <= 15; id++) {
            int leaf = id;
            if (id != leftAlone) {
                both("setLeafSched(" + id + ", ..)", x -> x.setLeafSched(leaf, priority, 256));
            }
        }
    }

    private void offerToAll(int round) {
        for (int id = 1; id <= 15; id++) {
            int leaf = id;
            int size = 1 + (id * 53 + round * 101) % 255;
            if (id != leftAlone) {
                both("enqueue(" + id + ", " + size + ")", x -> x.enqueue(leaf, size));
            }
        }
    }

    private void both(String later, ToIntFunction<HierShaper> made) {
        int got = made.applyAsInt(touched);
        int want = made.applyAsInt(untouched);
        if (!apart && got != want) {
            apart = true;
            due.is(later + " some time after " + call, got, want);
        }
    }

    private void compareViews(String when) {
        if (!apart) {
            apart = !due.sameView(when + " " + call, compared.apply(View.of(touched)),
                    compared.apply(View.of(untouched)));
        }
    }
}
