import java.util.ArrayDeque;
import java.util.ArrayList;
import java.util.Deque;
import java.util.List;
import java.util.TreeMap;

/**
 * The document told a second time, over objects and lists and with its own numbers in place of the
 * program's constants, so that a fault of the program is not likely to stand here too.
 */
final class Model implements Shaper {
    private static final class Node {
        int kind;
        Node parent;
        long rate;
        long ceil;
        long t;
        long ct;
        long sent;
        long dropped;
        int priority = 0;
        int quantum = 256;
        final int[] d = {0, 0, 0};
        final Deque<Integer> queue = new ArrayDeque<>();
    }

    private final TreeMap<Integer, Node> nodes = new TreeMap<>();
    private final int[][] pointer = new int[3][4];
    private final List<Integer> sendsOldestFirst = new ArrayList<>();
    private final int queueLimit;
    private final long depth;
    private final Node root = new Node();
    private long b;

    Model(int linkRate, int queueLimit, int depth) {
        this.queueLimit = Math.max(1, Math.min(8, queueLimit));
        this.depth = Math.max(1, Math.min(16, depth));
        root.kind = 1;
        root.rate = Math.max(16, Math.min(65536, linkRate));
        root.ceil = root.rate;
        b = root.rate * this.depth;
        nodes.put(0, root);
        for (int[] ofLevel : pointer) {
            java.util.Arrays.fill(ofLevel, 1);
        }
    }

    private int add(int id, int kind, Node parent, int rate, int ceil) {
        Node c = new Node();
        c.kind = kind;
        c.parent = parent;
        c.rate = Math.max(1, Math.min(65536, rate));
        c.ceil = Math.max(c.rate, Math.min(65536, ceil));
        c.t = c.rate * depth;
        c.ct = c.ceil * depth;
        nodes.put(id, c);
        return 0;
    }

    @Override public int addInner(int id, int rate, int ceil) {
        if (id < 1 || id > 15) {
            return -1;
        }
        return nodes.containsKey(id) ? -2 : add(id, 2, root, rate, ceil);
    }

    @Override public int addLeaf(int id, int parent, int rate, int ceil) {
        if (id < 1 || id > 15) {
            return -1;
        }
        if (nodes.containsKey(id)) {
            return -2;
        }
        return kind(parent) != 2 ? -3 : add(id, 3, nodes.get(parent), rate, ceil);
    }

    @Override public int setLeafSched(int id, int prio, int quantum) {
        if (kind(id) != 3) {
            return -4;
        }
        nodes.get(id).priority = Math.max(0, Math.min(3, prio));
        nodes.get(id).quantum = Math.max(256, Math.min(2048, quantum));
        return 0;
    }

    @Override public int enqueue(int id, int size) {
        if (kind(id) != 3) {
            return -4;
        }
        if (size < 1 || size > 255) {
            return -5;
        }
        Node leaf = nodes.get(id);
        if (leaf.queue.size() == queueLimit) {
            leaf.dropped += size;
            return 1;
        }
        leaf.queue.addLast(size);
        return 0;
    }

    @Override public int run(int ticks) {
        int before = sendsOldestFirst.size();
        for (int left = Math.min(64, ticks); left > 0; left--) {
            refill();
            boolean more = true;
            while (more) {
                more = sendOne();
            }
        }
        return sendsOldestFirst.size() - before;
    }

    private void refill() {
        b = Math.min(b + root.rate, root.rate * depth);
        for (Node c : nodes.values()) {
            if (c != root) {
                c.t = Math.min(c.t + c.rate, c.rate * depth);
                c.ct = Math.min(c.ct + c.ceil, c.ceil * depth);
            }
        }
    }

    private char colourOf(Node c) {
        if (c == root) {
            return b >= 0 ? 'g' : 'r';
        }
        if (c.ct < 0) {
            return 'r';
        }
        return c.t >= 0 ? 'g' : 'y';
    }

    private boolean eligible(Node leaf) {
        return leaf.kind == 3 && !leaf.queue.isEmpty() && colourOf(leaf) != 'r'
                && colourOf(leaf.parent) != 'r' && colourOf(root) != 'r';
    }

    private int levelOf(Node leaf) {
        if (colourOf(leaf) == 'g') {
            return 0;
        }
        return colourOf(leaf.parent) == 'g' ? 1 : 2;
    }

    private boolean sendOne() {
        for (int v = 0; v <= 2; v++) {
            for (int p = 0; p <= 3; p++) {
                for (int step = 0; step < 15; step++) {
                    int id = (pointer[v][p] - 1 + step) % 15 + 1;
                    Node c = nodes.get(id);
                    if (c != null && eligible(c) && levelOf(c) == v && c.priority == p) {
                        send(id, c, v, p);
                        return true;
                    }
                }
            }
        }
        return false;
    }

    private void send(int id, Node leaf, int v, int p) {
        int s = leaf.queue.removeFirst();
        leaf.ct -= 16L * s;
        leaf.parent.ct -= 16L * s;
        b -= 16L * s;
        if (v == 0) {
            leaf.t -= 16L * s;
        }
        if (v != 2) {
            leaf.parent.t -= 16L * s;
        }
        leaf.sent += s;
        leaf.parent.sent += s;
        root.sent += s;
        pointer[v][p] = id;
        leaf.d[v] -= s;
        if (leaf.d[v] < 0) {
            leaf.d[v] += leaf.quantum;
            pointer[v][p] = id == 15 ? 1 : id + 1;
        }
        sendsOldestFirst.add(id + 16 * v + 64 * s);
    }

    @Override public int kind(int id) {
        return nodes.containsKey(id) ? nodes.get(id).kind : 0;
    }

    @Override public int colour(int id) {
        return nodes.containsKey(id) ? "gyr".indexOf(colourOf(nodes.get(id))) : -1;
    }

    @Override public long tokens(int id) {
        return id == 0 ? b : nodes.containsKey(id) ? nodes.get(id).t : 0;
    }

    @Override public long ctokens(int id) {
        return id == 0 ? b : nodes.containsKey(id) ? nodes.get(id).ct : 0;
    }

    @Override public long sentBytes(int id) {
        return nodes.containsKey(id) ? nodes.get(id).sent : 0;
    }

    @Override public long droppedBytes(int id) {
        return kind(id) == 3 ? nodes.get(id).dropped : 0;
    }

    @Override public int queueLength(int id) {
        return kind(id) == 3 ? nodes.get(id).queue.size() : 0;
    }

    @Override public long queuedBytes(int id) {
        long sum = 0;
        if (kind(id) == 3) {
            for (int size : nodes.get(id).queue) {
                sum += size;
            }
        }
        return sum;
    }

    @Override public int deficit(int id, int level) {
        return kind(id) == 3 && level >= 0 && level <= 2 ? nodes.get(id).d[level] : -1;
    }

    @Override public int sendCount() {
        return sendsOldestFirst.size();
    }

    @Override public int logEntry(int k) {
        int count = sendsOldestFirst.size();
        return k >= 0 && k < 64 && k < count ? sendsOldestFirst.get(count - 1 - k) : -1;
    }
}
