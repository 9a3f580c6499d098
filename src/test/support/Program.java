/** The program under test, behind the calls of Shaper. */
final class Program implements Shaper {
    private final HierShaper x;

    Program(HierShaper x) {
        this.x = x;
    }

    @Override public int addInner(int id, int rate, int ceil) {
        return x.addInner(id, rate, ceil);
    }

    @Override public int addLeaf(int id, int parent, int rate, int ceil) {
        return x.addLeaf(id, parent, rate, ceil);
    }

    @Override public int setLeafSched(int id, int prio, int quantum) {
        return x.setLeafSched(id, prio, quantum);
    }

    @Override public int enqueue(int id, int size) {
        return x.enqueue(id, size);
    }

    @Override public int run(int ticks) {
        return x.run(ticks);
    }

    @Override public int kind(int id) {
        return x.kind(id);
    }

    @Override public int colour(int id) {
        return x.colour(id);
    }

    @Override public long tokens(int id) {
        return x.tokens(id);
    }

    @Override public long ctokens(int id) {
        return x.ctokens(id);
    }

    @Override public long sentBytes(int id) {
        return x.sentBytes(id);
    }

    @Override public long droppedBytes(int id) {
        return x.droppedBytes(id);
    }

    @Override public int queueLength(int id) {
        return x.queueLength(id);
    }

    @Override public long queuedBytes(int id) {
        return x.queuedBytes(id);
    }

    @Override public int deficit(int id, int level) {
        return x.deficit(id, level);
    }

    @Override public int sendCount() {
        return x.sendCount();
    }

    @Override public int logEntry(int k) {
        return x.logEntry(k);
    }
}
