/** Shapes packets through a fixed three-level tree of token buckets: a root, inner classes and leaves. */
public final class HierShaper {
    public static final int TOKENS_PER_BYTE = 16;
    public static final int MAX_ID = 15;
    public static final int MIN_SIZE = 1;
    public static final int MAX_SIZE = 255;
    public static final int MAX_TICKS = 64;
    public static final int LOG_CAPACITY = 64;

    public static final int OK = 0;
    public static final int DROPPED = 1;
    public static final int BAD_ID = -1;
    public static final int EXISTS = -2;
    public static final int BAD_PARENT = -3;
    public static final int NOT_LEAF = -4;
    public static final int BAD_SIZE = -5;

    public static final int NO_CLASS = -1;
    public static final int GREEN = 0;
    public static final int YELLOW = 1;
    public static final int RED = 2;

    public static final int KIND_NONE = 0;
    public static final int KIND_ROOT = 1;
    public static final int KIND_INNER = 2;
    public static final int KIND_LEAF = 3;

    public static final int LEVEL_LEAF = 0;
    public static final int LEVEL_INNER = 1;
    public static final int LEVEL_ROOT = 2;

    private static final int ROOT = 0;
    private static final int FIRST_ID = 1;
    private static final int CLASS_COUNT = 16;
    private static final int LEVEL_COUNT = 3;
    private static final int PRIORITY_COUNT = 4;
    private static final int MAX_PRIORITY = 3;

    private static final int MIN_LINK_RATE = 16;
    private static final int MIN_RATE = 1;
    private static final int MAX_RATE = 65536;
    private static final int MAX_DEPTH = 16;
    private static final int MIN_QUANTUM = 256;
    private static final int MAX_QUANTUM = 2048;

    private static final int QUEUE_SLOTS = 8;
    private static final int QUEUE_MASK = 7;
    private static final int LOG_MASK = 63;

    private static final int ALL_QUEUE_SLOTS = 128;
    private static final int DEFICIT_COUNT = 48;
    private static final int POINTER_COUNT = 12;

    // Above every real level, so that a search for the least level passes it over.
    private static final int NOT_ELIGIBLE = 3;
    private static final int NO_ANSWER = -1;

    private final int queueLimit;
    private final int depth;

    private final int[] kinds = new int[CLASS_COUNT];
    // Asked for leaves alone: above an inner class there is only the root.
    private final int[] parents = new int[CLASS_COUNT];
    private final int[] rates = new int[CLASS_COUNT];
    private final int[] ceils = new int[CLASS_COUNT];
    // The root's one bucket stands in both arrays with the same value: filled and charged
    // alike, it needs no rule of its own for colour, refill and charging.
    private final long[] rateBuckets = new long[CLASS_COUNT];
    private final long[] ceilBuckets = new long[CLASS_COUNT];
    private final long[] sent = new long[CLASS_COUNT];
    private final long[] dropped = new long[CLASS_COUNT];

    private final int[] priorities = new int[CLASS_COUNT];
    private final int[] quanta = new int[CLASS_COUNT];
    private final int[] deficits = new int[DEFICIT_COUNT];
    private final int[] pointers = new int[POINTER_COUNT];

    // Each class has a ring of QUEUE_SLOTS places here, whatever the queue limit is.
    private final int[] queueSizes = new int[ALL_QUEUE_SLOTS];
    private final int[] queueHeads = new int[CLASS_COUNT];
    private final int[] queueCounts = new int[CLASS_COUNT];

    private final int[] log = new int[LOG_CAPACITY];
    private int sends = 0;

    public HierShaper(int linkRate, int queueLimit, int depth) {
        this.queueLimit = clamp(queueLimit, 1, QUEUE_SLOTS);
        this.depth = clamp(depth, 1, MAX_DEPTH);
        for (int i = 0; i < POINTER_COUNT; i++) {
            pointers[i] = FIRST_ID;
        }
        int rate = clamp(linkRate, MIN_LINK_RATE, MAX_RATE);
        openClass(ROOT, KIND_ROOT, rate, rate);
    }

    public int addInner(int id, int rate, int ceil) {
        if (id < FIRST_ID || id > MAX_ID) {
            return BAD_ID;
        }
        if (kinds[id] != KIND_NONE) {
            return EXISTS;
        }
        openClass(id, KIND_INNER, rate, ceil);
        return OK;
    }

    public int addLeaf(int id, int parent, int rate, int ceil) {
        if (id < FIRST_ID || id > MAX_ID) {
            return BAD_ID;
        }
        if (kinds[id] != KIND_NONE) {
            return EXISTS;
        }
        if (kind(parent) != KIND_INNER) {
            return BAD_PARENT;
        }
        openClass(id, KIND_LEAF, rate, ceil);
        parents[id] = parent;
        quanta[id] = MIN_QUANTUM;
        return OK;
    }

    public int setLeafSched(int id, int prio, int quantum) {
        if (kind(id) != KIND_LEAF) {
            return NOT_LEAF;
        }
        priorities[id] = clamp(prio, 0, MAX_PRIORITY);
        quanta[id] = clamp(quantum, MIN_QUANTUM, MAX_QUANTUM);
        return OK;
    }

    public int enqueue(int id, int size) {
        if (kind(id) != KIND_LEAF) {
            return NOT_LEAF;
        }
        if (size < MIN_SIZE || size > MAX_SIZE) {
            return BAD_SIZE;
        }
        if (queueCounts[id] >= queueLimit) {
            dropped[id] += size;
            return DROPPED;
        }
        int tail = queueSlot(id, queueCounts[id]);
        queueSizes[tail] = size;
        queueCounts[id]++;
        return OK;
    }

    public int run(int ticks) {
        int wanted = ticks > MAX_TICKS ? MAX_TICKS : ticks;
        int count = 0;
        for (int tick = 0; tick < wanted; tick++) {
            refillAll();
            count += sendWhileEligible();
        }
        return count;
    }

    public int kind(int id) {
        if (id < ROOT || id > MAX_ID) {
            return KIND_NONE;
        }
        return kinds[id];
    }

    public int colour(int id) {
        if (kind(id) == KIND_NONE) {
            return NO_CLASS;
        }
        return bucketColour(id);
    }

    public long tokens(int id) {
        if (kind(id) == KIND_NONE) {
            return 0L;
        }
        return rateBuckets[id];
    }

    public long ctokens(int id) {
        if (kind(id) == KIND_NONE) {
            return 0L;
        }
        return ceilBuckets[id];
    }

    public long sentBytes(int id) {
        if (kind(id) == KIND_NONE) {
            return 0L;
        }
        return sent[id];
    }

    public long droppedBytes(int id) {
        if (kind(id) != KIND_LEAF) {
            return 0L;
        }
        return dropped[id];
    }

    public int queueLength(int id) {
        if (kind(id) != KIND_LEAF) {
            return 0;
        }
        return queueCounts[id];
    }

    public long queuedBytes(int id) {
        if (kind(id) != KIND_LEAF) {
            return 0L;
        }
        int count = queueCounts[id];
        long total = 0L;
        for (int place = 0; place < count; place++) {
            int slot = queueSlot(id, place);
            total += queueSizes[slot];
        }
        return total;
    }

    public int deficit(int id, int level) {
        if (kind(id) != KIND_LEAF || level < LEVEL_LEAF || level > LEVEL_ROOT) {
            return NO_ANSWER;
        }
        return deficits[id * LEVEL_COUNT + level];
    }

    public int sendCount() {
        return sends;
    }

    public int logEntry(int k) {
        if (k < 0 || k >= LOG_CAPACITY || k >= sends) {
            return NO_ANSWER;
        }
        return log[(sends - 1 - k) & LOG_MASK];
    }

    private static int clamp(int value, int low, int high) {
        if (value < low) {
            return low;
        }
        return value > high ? high : value;
    }

    // Classes are never removed, so a new one finds its counters, queue, deficits
    // and priority still at zero, as the constructor left them.
    private void openClass(int id, int newKind, int rate, int ceil) {
        rates[id] = clamp(rate, MIN_RATE, MAX_RATE);
        ceils[id] = clamp(ceil, rates[id], MAX_RATE);
        rateBuckets[id] = (long) rates[id] * depth;
        ceilBuckets[id] = (long) ceils[id] * depth;
        kinds[id] = newKind;
    }

    private int queueSlot(int id, int place) {
        return id * QUEUE_SLOTS + ((queueHeads[id] + place) & QUEUE_MASK);
    }

    private int bucketColour(int id) {
        if (ceilBuckets[id] < 0L) {
            return RED;
        }
        return rateBuckets[id] >= 0L ? GREEN : YELLOW;
    }

    private void refillAll() {
        for (int id = ROOT; id <= MAX_ID; id++) {
            if (kinds[id] != KIND_NONE) {
                rateBuckets[id] = refilled(rateBuckets[id], rates[id]);
                ceilBuckets[id] = refilled(ceilBuckets[id], ceils[id]);
            }
        }
    }

    private long refilled(long bucket, int rate) {
        long capacity = (long) rate * depth;
        long grown = bucket + rate;
        return grown < capacity ? grown : capacity;
    }

    // Every send takes a packet out of a queue, so there are never more sends in a tick than slots.
    private int sendWhileEligible() {
        for (int count = 0; count < ALL_QUEUE_SLOTS; count++) {
            int level = leastLendingLevel();
            if (level == NOT_ELIGIBLE) {
                return count;
            }
            int priority = leastPriority(level);
            int leaf = firstOfGroup(level, priority);
            sendHead(leaf, level, priority);
        }
        return ALL_QUEUE_SLOTS;
    }

    private int lendingLevel(int id) {
        if (kinds[id] != KIND_LEAF || queueCounts[id] == 0) {
            return NOT_ELIGIBLE;
        }
        int own = bucketColour(id);
        int inner = bucketColour(parents[id]);
        int root = bucketColour(ROOT);
        if (own == RED || inner == RED || root == RED) {
            return NOT_ELIGIBLE;
        }
        if (own == GREEN) {
            return LEVEL_LEAF;
        }
        return inner == GREEN ? LEVEL_INNER : LEVEL_ROOT;
    }

    private int leastLendingLevel() {
        int least = NOT_ELIGIBLE;
        for (int id = FIRST_ID; id <= MAX_ID; id++) {
            int level = lendingLevel(id);
            if (level < least) {
                least = level;
            }
        }
        return least;
    }

    private int leastPriority(int level) {
        int least = MAX_PRIORITY;
        for (int id = FIRST_ID; id <= MAX_ID; id++) {
            if (priorities[id] < least && lendingLevel(id) == level) {
                least = priorities[id];
            }
        }
        return least;
    }

    private int firstOfGroup(int level, int priority) {
        int id = pointers[level * PRIORITY_COUNT + priority];
        for (int step = 0; step < MAX_ID; step++) {
            if (priorities[id] == priority && lendingLevel(id) == level) {
                return id;
            }
            id = nextId(id);
        }
        // Not reached: level and priority were taken from an eligible leaf.
        return id;
    }

    private static int nextId(int id) {
        return id >= MAX_ID ? FIRST_ID : id + 1;
    }

    private void sendHead(int leaf, int level, int priority) {
        int size = takeHead(leaf);
        charge(leaf, size, level == LEVEL_LEAF);
        charge(parents[leaf], size, level <= LEVEL_INNER);
        charge(ROOT, size, true);
        spendDeficit(leaf, level, priority, size);
        log[sends & LOG_MASK] = leaf + 16 * level + 64 * size;
        sends++;
    }

    private int takeHead(int leaf) {
        int slot = queueSlot(leaf, 0);
        queueHeads[leaf] = (queueHeads[leaf] + 1) & QUEUE_MASK;
        queueCounts[leaf]--;
        return queueSizes[slot];
    }

    private void charge(int id, int size, boolean alsoRate) {
        long cost = (long) TOKENS_PER_BYTE * size;
        ceilBuckets[id] -= cost;
        if (alsoRate) {
            rateBuckets[id] -= cost;
        }
        sent[id] += size;
    }

    private void spendDeficit(int leaf, int level, int priority, int size) {
        int at = leaf * LEVEL_COUNT + level;
        int pointer = level * PRIORITY_COUNT + priority;
        deficits[at] -= size;
        if (deficits[at] < 0) {
            deficits[at] += quanta[leaf];
            pointers[pointer] = nextId(leaf);
        } else {
            pointers[pointer] = leaf;
        }
    }
}
