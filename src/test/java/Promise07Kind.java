/** Promise 7: the kind of a class. Above each test stand the words of the document it holds the program to. */
public final class Promise07Kind {
    private static final Due due = new Due("Promise07Kind");

    /** "`kind(int id)` answers `KIND_ROOT` for 0": on a new object and on a used one. */
    private static void zeroIsTheRoot() {
        due.is("kind(0) of a new object", new HierShaper(256, 4, 2).kind(0), HierShaper.KIND_ROOT);
        due.is("kind(0) of a used object", Family.starved().kind(0), HierShaper.KIND_ROOT);
    }

    /** "`KIND_INNER` or `KIND_LEAF` for an existing inner or leaf class": from the moment it is added. */
    private static void everyIdMayBeInnerOrLeaf() {
        for (int id = 1; id <= 15; id++) {
            HierShaper x = new HierShaper(256, 4, 2);
            due.is("kind(" + id + "), missing", x.kind(id), HierShaper.KIND_NONE);
            x.addInner(id, 1, 1);
            due.is("kind(" + id + "), inner", x.kind(id), HierShaper.KIND_INNER);
            int leaf = id % 15 + 1;
            x.addLeaf(leaf, id, 1, 1);
            due.is("kind(" + leaf + "), leaf", x.kind(leaf), HierShaper.KIND_LEAF);
            due.is("kind(" + id + "), a parent", x.kind(id), HierShaper.KIND_INNER);
        }
    }

    /** "`KIND_NONE` otherwise": for classes that are missing, */
    private static void missingClassesHaveNone() {
        for (int id : Family.MISSING) {
            due.is("kind(" + id + ")", Family.worn().kind(id), HierShaper.KIND_NONE);
        }
    }

    /** "(this includes any id outside 0..15)" */
    private static void idsOutsideHaveNone() {
        for (int id : Edges.OUTSIDE_IDS) {
            due.is("kind(" + id + ")", Family.worn().kind(id), HierShaper.KIND_NONE);
            due.is("kind(" + id + ") of a full tree", Shapers.loaded(16, 1, 1).kind(id), HierShaper.KIND_NONE);
        }
    }

    /** "classes are never removed": nor do they change their kind. */
    private static void kindsLast() {
        HierShaper x = Family.starved();
        for (int i = 0; i < 100; i++) {
            x.run(64);
        }
        for (int id : Family.INNERS) {
            due.is("kind(" + id + ")", x.kind(id), HierShaper.KIND_INNER);
        }
        for (int id : Family.LEAVES) {
            due.is("kind(" + id + ")", x.kind(id), HierShaper.KIND_LEAF);
        }
    }

    /** "It changes nothing." */
    private static void askingChangesNothing() {
        Twins.unchangedBy(due, "kind", x -> {
            for (int id : Edges.ASKED_IDS) {
                x.kind(id);
            }
        });
    }

    public static void main(String[] args) {
        zeroIsTheRoot();
        everyIdMayBeInnerOrLeaf();
        missingClassesHaveNone();
        idsOutsideHaveNone();
        kindsLast();
        askingChangesNothing();
        due.end();
    }
}
