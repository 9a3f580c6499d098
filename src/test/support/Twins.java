import java.util.function.Consumer;
import java.util.function.ToIntFunction;
import java.util.function.UnaryOperator;

/**
 * The program and the model made alike, of which the program, or both, have had a call more. The same calls
 * follow on both, so that a change in what no call answers (a pointer, a priority, a rate, the order of a
 * queue) shows.
 */
final class Twins {
    /** 0: the classes as they are; 1 to 4: all leaves at one priority; 5: every missing class added. */
    private static final int FUTURES = 6;
    private static final int ROUNDS = 12;
    private static final int NEW_INNER = 6;
    private static final int NONE = 99;

    private final Due due;
    private final String call;
    private final Shaper program;
    private final Shaper model;
    private final int leftAlone;
    private final UnaryOperator<long[]> compared;
    private boolean apart = false;

    private Twins(Due due, String call, Family.State state, Consumer<HierShaper> made, int leftAlone,
            UnaryOperator<long[]> compared) {
        this.due = due;
        this.call = call + " on a shaper " + state.name();
        this.leftAlone = leftAlone;
        this.compared = compared;
        HierShaper x = state.program();
        made.accept(x);
        program = new Program(x);
        model = state.model();
    }

    /** The call is refused with the answer that is due, and changes nothing at all. */
    static void refused(Due due, String call, int want, ToIntFunction<HierShaper> made) {
        unchangedBy(due, call, x -> due.is(call, made.applyAsInt(x), want));
    }

    /** The calls change nothing at all. */
    static void unchangedBy(Due due, String calls, Consumer<HierShaper> made) {
        for (Family.State state : Family.STATES) {
            compareFutures(due, calls, state, made, NONE, view -> view);
        }
    }

    /** The call makes class id, and all that has nothing to do with that class goes on as without it. */
    static void adds(Due due, String call, int id, ToIntFunction<HierShaper> made) {
        for (Family.State state : Family.STATES) {
            compareFutures(due, call, state, x -> due.is(call, made.applyAsInt(x), HierShaper.OK), id,
                    view -> View.without(id, view));
        }
    }

    /** On a full queue the packet is dropped, and nothing but the leaf's droppedBytes is changed. */
    static void drops(Due due, int leaf, int size) {
        String call = "enqueue(" + leaf + ", " + size + ")";
        compareFutures(due, call, Family.STARVED,
                x -> due.is(call, x.enqueue(leaf, size), HierShaper.DROPPED), NONE, view -> {
                    view[View.placeOf("droppedBytes", leaf)] = 0;
                    return view;
                });
    }

    /** The call answers what the model says, and changes what the model says and nothing else. */
    static void alike(Due due, String call, ToIntFunction<Shaper> made) {
        for (Family.State state : Family.STATES) {
            for (int future = 0; future < FUTURES; future++) {
                Twins twins = new Twins(due, call, state, x -> { }, NONE, view -> view);
                twins.both(call, made);
                twins.live(future);
            }
        }
    }

    private static void compareFutures(Due due, String call, Family.State state, Consumer<HierShaper> made,
            int leftAlone, UnaryOperator<long[]> compared) {
        for (int future = 0; future < FUTURES; future++) {
            new Twins(due, call, state, made, leftAlone, compared).live(future);
        }
    }

    private void live(int future) {
        compareViews("right after");
        if (future == FUTURES - 1) {
            fillTheTree();
        } else if (future > 0) {
            setPriorities(future - 1);
        }
        for (int round = 0; round < ROUNDS && !apart; round++) {
            offerToAll(round);
            int ticks = 1 + round % 3;
            both("run(" + ticks + ")", x -> x.run(ticks));
            compareViews("in round " + round + " of future " + future + " after");
        }
    }

    private void fillTheTree() {
        both("addInner(" + NEW_INNER + ", 2000, 65536)", x -> x.addInner(NEW_INNER, 2000, 65536));
        for (int id : Family.MISSING) {
            if (id != NEW_INNER && id != leftAlone) {
                both("addLeaf(" + id + ", ..)", x -> x.addLeaf(id, NEW_INNER, id, 65536));
            }
        }
    }

    private void setPriorities(int priority) {
        for (int leaf : Family.LEAVES) {
            both("setLeafSched(" + leaf + ", ..)", x -> x.setLeafSched(leaf, priority, 256));
        }
    }

    private void offerToAll(int round) {
        for (int id = 1; id <= 15; id++) {
            int leaf = id;
            int size = 1 + (id * 53 + round * 101) % 255;
            if (id != leftAlone) {
                both("enqueue(" + id + ", " + size + ")", x -> x.enqueue(leaf, size));
            }
        }
    }

    private void both(String later, ToIntFunction<Shaper> made) {
        int got = made.applyAsInt(program);
        int want = made.applyAsInt(model);
        if (!apart && got != want) {
            apart = true;
            due.is(later + " at or after " + call, got, want);
        }
    }

    private void compareViews(String when) {
        if (!apart) {
            apart = !due.sameView(when + " " + call, compared.apply(View.of(program)),
                    compared.apply(View.of(model)));
        }
    }
}
