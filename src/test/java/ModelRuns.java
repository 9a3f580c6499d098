import java.util.Random;

/**
 * Promises 1 to 14 together: long runs of mixed calls, good and bad, on the program and on the model,
 * with all that both show compared after every call, and the standing facts of promise 6 on the way.
 */
public final class ModelRuns {
    private static final int[] ODD = {
        Integer.MIN_VALUE, -65537, -1, 0, 1, 15, 16, 17, 255, 256, 65535, 65536, 65537, Integer.MAX_VALUE
    };
    private static final Due due = new Due("ModelRuns");

    private final Random random;
    private final Shaper program;
    private final Shaper model;
    private final Facts facts;
    /** About how many tokens a tick the rates of this run have: small ones turn classes yellow and red. */
    private final int scale;
    private final String name;

    private ModelRuns(int seed) {
        random = new Random(seed);
        int[] scales = {16, 200, 1000, 4000, 20000, 70000};
        scale = scales[seed % scales.length];
        int linkRate = random.nextInt(4) == 0 ? odd() : around(scale * 3);
        int queueLimit = random.nextInt(4) == 0 ? odd() : 1 + random.nextInt(8);
        int depth = random.nextInt(4) == 0 ? odd() : 1 + random.nextInt(16);
        program = new Program(new HierShaper(linkRate, queueLimit, depth));
        model = new Model(linkRate, queueLimit, depth);
        facts = new Facts(due, program, linkRate, depth);
        name = "run " + seed + ", HierShaper(" + linkRate + ", " + queueLimit + ", " + depth + ")";
        due.sameView(name, View.of(program), View.of(model));
    }

    private int odd() {
        return ODD[random.nextInt(ODD.length)];
    }

    private int around(int middle) {
        return 1 + random.nextInt(2 * middle);
    }

    private int id() {
        return random.nextInt(25) == 0 ? odd() : random.nextInt(17);
    }

    private int rate() {
        return random.nextInt(10) == 0 ? odd() : around(scale);
    }

    private int size() {
        int kind = random.nextInt(12);
        if (kind == 0) {
            return odd();
        }
        return kind < 4 ? 200 + random.nextInt(56) : 1 + random.nextInt(255);
    }

    private int ticks() {
        int kind = random.nextInt(20);
        if (kind == 0) {
            return odd();
        }
        return kind == 1 ? random.nextInt(70) : random.nextInt(4);
    }

    private void callAddInner() {
        int id = id();
        int rate = rate();
        int ceil = rate();
        int got = program.addInner(id, rate, ceil);
        check("addInner(" + id + ", " + rate + ", " + ceil + ")", got, model.addInner(id, rate, ceil));
        facts.added(id, rate, ceil, got);
    }

    private void callAddLeaf() {
        int id = id();
        int parent = random.nextInt(3) == 0 ? id() : innerId();
        int rate = rate();
        int ceil = random.nextBoolean() ? rate() : rate() + rate;
        int got = program.addLeaf(id, parent, rate, ceil);
        check("addLeaf(" + id + ", " + parent + ", " + rate + ", " + ceil + ")", got,
                model.addLeaf(id, parent, rate, ceil));
        facts.added(id, rate, ceil, got);
        facts.parent(id, parent, got);
    }

    private int innerId() {
        int start = random.nextInt(16);
        for (int i = 0; i < 16; i++) {
            if (model.kind((start + i) % 16) == HierShaper.KIND_INNER) {
                return (start + i) % 16;
            }
        }
        return 1;
    }

    private void callSetLeafSched() {
        int id = id();
        int prio = random.nextInt(8) == 0 ? odd() : random.nextInt(6) - 1;
        int quantum = random.nextInt(8) == 0 ? odd() : 200 + random.nextInt(2000);
        int got = program.setLeafSched(id, prio, quantum);
        check("setLeafSched(" + id + ", " + prio + ", " + quantum + ")", got,
                model.setLeafSched(id, prio, quantum));
    }

    private void callEnqueue() {
        int id = id();
        int size = size();
        int got = program.enqueue(id, size);
        check("enqueue(" + id + ", " + size + ")", got, model.enqueue(id, size));
        facts.offered(id, size, got);
    }

    private void callRun() {
        int ticks = ticks();
        int got = program.run(ticks);
        check("run(" + ticks + ")", got, model.run(ticks));
        facts.ran(ticks);
    }

    private void check(String call, int got, int want) {
        due.is(name + ": " + call, got, want);
        due.sameView(name + ": after " + call, View.of(program), View.of(model));
    }

    private void oneCall(boolean building) {
        int kind = random.nextInt(100);
        if (kind < (building ? 15 : 1)) {
            callAddInner();
        } else if (kind < (building ? 50 : 3)) {
            callAddLeaf();
        } else if (kind < (building ? 60 : 8)) {
            callSetLeafSched();
        } else if (kind < 85) {
            callEnqueue();
        } else {
            callRun();
        }
        facts.check(name);
    }

    public static void main(String[] args) {
        for (int seed = 0; seed < 300 && !due.anyWrong(); seed++) {
            ModelRuns run = new ModelRuns(seed);
            for (int call = 0; call < 600 && !due.anyWrong(); call++) {
                run.oneCall(call < 60);
            }
        }
        due.end();
    }
}
