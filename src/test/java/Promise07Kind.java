/** Promise 7: the kind of a class. */
public final class Promise07Kind {
    private static final Due due = new Due("Promise07Kind");

    public static void main(String[] args) {
        HierShaper x = new HierShaper(256, 4, 2);
        x.addInner(1, 96, 192);
        x.addInner(15, 96, 192);
        x.addLeaf(2, 1, 64, 128);
        x.addLeaf(14, 15, 64, 128);
        int[] kinds = {1, 2, 3, 0, 0, 0, 0, 0, 0, 0, 0, 0, 0, 0, 3, 2};
        long[] before = View.of(x);
        for (int id = 0; id <= 15; id++) {
            due.is("kind(" + id + ")", x.kind(id), kinds[id]);
        }
        int[] outside = {-1, -2, -14, -15, -16, 16, 17, 18, 30, 31, 32, Integer.MIN_VALUE, Integer.MAX_VALUE};
        for (int id : outside) {
            due.is("kind(" + id + ")", x.kind(id), HierShaper.KIND_NONE);
        }
        due.sameView("after asking", View.of(x), before);
        x.enqueue(2, 10);
        x.run(3);
        due.is("kind(2) after a send", x.kind(2), HierShaper.KIND_LEAF);
        due.is("kind(1) after a send", x.kind(1), HierShaper.KIND_INNER);
        due.is("kind(0) after a send", x.kind(0), HierShaper.KIND_ROOT);
        x.addInner(3, 1, 1);
        due.is("kind(3) once it is added", x.kind(3), HierShaper.KIND_INNER);
        x.addLeaf(4, 3, 1, 1);
        due.is("kind(4) once it is added", x.kind(4), HierShaper.KIND_LEAF);
        due.end();
    }
}
