/** Promise 6, ticks and refill. Above each test stand the words of the document it holds the program to. */
public final class Promise06Refill {
    private static final Due due = new Due("Promise06Refill");

    /** "If ticks < 1: answers 0 and changes nothing." */
    private static void ticksBelowOneDoNothing() {
        for (int ticks : new int[] {0, -1, -2, -63, -64, -65, Integer.MIN_VALUE, Integer.MIN_VALUE + 1}) {
            Twins.refused(due, "run(" + ticks + ")", 0, x -> x.run(ticks));
        }
    }

    /** The least number of ticks that does something is 1. */
    private static void oneTickIsOne() {
        HierShaper x = Shapers.oneInner(1, 65536, 16);
        Sends.offer(x, 2, 255);
        due.is("run(1)", x.run(1), 1);
        due.is("tokens(1)", x.tokens(1), 16 - 4080);
        due.is("run(1)", x.run(1), 0);
        due.is("tokens(1)", x.tokens(1), 16 - 4080 + 1);
    }

    /** "If ticks > 64: it is taken as 64." */
    private static void ticksAbove64Are64() {
        int[][] givenAndDue = {
            {1, 1}, {2, 2}, {62, 62}, {63, 63}, {64, 64},
            {65, 64}, {66, 64}, {127, 64}, {128, 64}, {129, 64}, {65536, 64}, {Integer.MAX_VALUE, 64}
        };
        for (int[] row : givenAndDue) {
            HierShaper x = Shapers.oneInner(1, 65536, 16);
            Sends.offer(x, 2, 255);
            x.run(1);
            due.is("run(" + row[0] + ")", x.run(row[0]), 0);
            due.is("tokens(1) after run(" + row[0] + ")", x.tokens(1), 16 - 4080 + row[1]);
        }
    }

    /** "For each tick, in turn": a call of n ticks is n calls of one tick. */
    private static void ticksComeInTurn() {
        for (Family.State state : Family.STATES) {
            for (int ticks : new int[] {1, 2, 3, 9, 63, 64}) {
                HierShaper many = state.program();
                HierShaper single = state.program();
                int sent = 0;
                for (int i = 0; i < ticks; i++) {
                    sent += single.run(1);
                }
                due.is("run(" + ticks + ")", many.run(ticks), sent);
                due.sameView("after " + ticks + " ticks", View.of(many), View.of(single));
            }
        }
    }

    /** What a tick changes, seen or not, is what the document says and nothing else, from every state. */
    private static void runChangesWhatTheDocumentSays() {
        for (int ticks : new int[] {1, 2, 7, 64, 65}) {
            Twins.alike(due, "run(" + ticks + ")", x -> x.run(ticks));
        }
    }

    /** Every call but run, with arguments that are taken as far as the classes allow. */
    private static void allOtherCalls(HierShaper x) {
        x.addInner(4, 50, 60);
        x.addLeaf(6, 1, 50, 60);
        for (int id = 0; id <= 15; id++) {
            x.setLeafSched(id, 1, 300);
            x.enqueue(id, 100);
        }
        View.of(x);
    }

    /** "Time advances only inside `run`, in whole ticks.": no other call refills a bucket or sends a packet, */
    private static void timeStandsStillInOtherCalls() {
        for (Family.State state : Family.STATES) {
            HierShaper x = state.program();
            long[] before = View.of(x);
            for (int i = 0; i < 100; i++) {
                allOtherCalls(x);
            }
            due.is("sendCount()", x.sendCount(), before[View.SEND_COUNT_PLACE]);
            for (int id : Edges.join(new int[] {0}, Family.INNERS, Family.LEAVES)) {
                due.buckets("after other calls", x, id, before[View.placeOf("tokens", id)],
                        before[View.placeOf("ctokens", id)]);
            }
        }
    }

    /** nor does a wait: "nothing happens between calls". */
    private static void timeStandsStillBetweenCalls() throws InterruptedException {
        HierShaper waited = Family.starved();
        HierShaper other = Family.starved();
        Thread.sleep(200);
        due.sameView("after a wait", View.of(waited), View.of(other));
        due.is("run(3) after a wait", waited.run(3), other.run(3));
        due.sameView("after a wait and run(3)", View.of(waited), View.of(other));
    }

    /** 160 tokens are spent of each bucket of 2 * rate: one less, just as much and one more than a refill. */
    private static final int[][] RATE_AND_REFILLED = {{159, 317}, {160, 320}, {161, 322}};

    /** "root: B = min(B + linkRate, linkRate*depth)" */
    private static void theRootIsRefilledToItsCapacity() {
        for (int[] row : RATE_AND_REFILLED) {
            HierShaper x = Shapers.oneLink(row[0], 2);
            Sends.offer(x, 2, 10);
            due.is("run(1)", x.run(1), 1);
            due.buckets("spent", x, 0, 2 * row[0] - 160, 2 * row[0] - 160);
            x.run(1);
            due.buckets("refilled at link rate " + row[0], x, 0, row[1], row[1]);
            x.run(1);
            due.buckets("full at link rate " + row[0], x, 0, 2 * row[0], 2 * row[0]);
        }
    }

    /** "other classes: T = min(T + rate, rate*depth)" */
    private static void rateBucketsAreRefilledToTheirCapacity() {
        for (int[] row : RATE_AND_REFILLED) {
            HierShaper leaf = Shapers.oneLeaf(row[0], 1000, 2);
            refilledTo("rate bucket of a leaf", leaf, 2, row[1], 2000, 2 * row[0]);
            HierShaper inner = Shapers.oneInner(row[0], 1000, 2);
            refilledTo("rate bucket of an inner class", inner, 1, row[1], 2000, 2 * row[0]);
        }
    }

    /** "then CT = min(CT + ceil, ceil*depth)" */
    private static void ceilBucketsAreRefilledToTheirCapacity() {
        for (int[] row : RATE_AND_REFILLED) {
            HierShaper leaf = Shapers.oneLeaf(100, row[0], 2);
            refilledTo("ceil bucket of a leaf", leaf, 2, 200 - 160 + 100, row[1], 200);
            HierShaper inner = Shapers.oneInner(100, row[0], 2);
            refilledTo("ceil bucket of an inner class", inner, 1, 200 - 160 + 100, row[1], 200);
        }
    }

    private static void refilledTo(String what, HierShaper x, int id, long tokens, long ctokens, long fullTokens) {
        long fullCtokens = x.ctokens(id);
        Sends.offer(x, 2, 10);
        due.is("run(1)", x.run(1), 1);
        due.buckets(what + ", spent", x, id, fullTokens - 160, fullCtokens - 160);
        x.run(1);
        due.buckets(what + ", refilled", x, id, tokens, ctokens);
        x.run(2);
        due.buckets(what + ", full", x, id, fullTokens, fullCtokens);
    }

    /** A full bucket stays full, in the first tick already. */
    private static void fullBucketsStayFull() {
        HierShaper x = Family.rested();
        long[] before = View.of(x);
        for (int ticks = 1; ticks <= 64; ticks += 21) {
            due.is("run(" + ticks + ")", x.run(ticks), 0);
            due.sameView("after idle ticks", View.of(x), before);
        }
    }

    /** "Buckets have no lower bound; they may become negative": each climbs out of debt by its own rate. */
    private static void debtsArePaidTickByTick() {
        HierShaper x = new HierShaper(100, 8, 3);
        x.addInner(1, 10, 50);
        x.addLeaf(2, 1, 7, 20);
        Sends.offer(x, 2, 200);
        due.is("run(1)", x.run(1), 1);
        for (int tick = 0; tick <= 70; tick++) {
            due.buckets(tick + " ticks later", x, 0, Math.min(-2900 + 100 * tick, 300),
                    Math.min(-2900 + 100 * tick, 300));
            due.buckets(tick + " ticks later", x, 1, -3170 + 10 * tick, Math.min(-3050 + 50 * tick, 150));
            due.buckets(tick + " ticks later", x, 2, -3179 + 7 * tick, -3140 + 20 * tick);
            x.run(1);
        }
    }

    /** "For every existing class, in id order 0..15": the first and the last as well, each by its own rates. */
    private static void everyClassIsRefilled() {
        for (int inner = 1; inner <= 15; inner += 7) {
            HierShaper x = new HierShaper(65536, 8, 16);
            x.addInner(inner, 2, 65536);
            for (int leaf = 1; leaf <= 15; leaf++) {
                if (leaf != inner) {
                    x.addLeaf(leaf, inner, leaf, 100 * leaf);
                    x.enqueue(leaf, 255);
                }
            }
            due.is("run(1)", x.run(1), 14);
            x.run(2);
            due.buckets("3 ticks", x, inner, 32 - 14 * 4080 + 4, 1048576);
            for (int leaf = 1; leaf <= 15; leaf++) {
                if (leaf != inner) {
                    long ctokens = Math.min(16 * 100 * leaf - 4080 + 200 * leaf, 1600 * leaf);
                    due.buckets("3 ticks", x, leaf, 16 * leaf - 4080 + 2 * leaf, ctokens);
                }
            }
        }
    }

    /** A class that does not exist yet gathers nothing: it starts at its capacity whenever it is added. */
    private static void missingClassesAreNotRefilled() {
        HierShaper x = new HierShaper(100, 8, 3);
        x.run(64);
        for (int id = 1; id <= 15; id++) {
            due.buckets("missing", x, id, 0, 0);
        }
        x.addInner(15, 10, 50);
        due.buckets("added after 64 ticks", x, 15, 30, 150);
    }

    /** (a) before (b), in every tick: a bucket that the refill brings to exactly 0 sends in the same tick. */
    private static void refillComesBeforeSending() {
        HierShaper x = new HierShaper(100, 8, 3);
        x.addInner(1, 10, 50);
        x.addLeaf(2, 1, 7, 20);
        Sends.offer(x, 2, 5, 1, 1);
        due.is("run(1)", x.run(1), 1);
        due.is("colour(2) at -20", x.colour(2), HierShaper.RED);
        due.is("run(1), refilled to 0", x.run(1), 1);
        due.buckets("tick 2", x, 0, 300 - 16, 300 - 16);
        due.buckets("tick 2", x, 1, -40, 120 - 16);
        due.buckets("tick 2", x, 2, -52, -16);
        due.reads("the sends", Sends.last(x, 2), "2@0:5 2@2:1");
        due.is("run(1), refilled to 4", x.run(1), 1);
        due.buckets("tick 3", x, 2, -45, 4 - 16);
    }

    /** "Answers the number of packets sent during this call (0 if none)." */
    private static void theAnswerCountsTheCall() {
        HierShaper x = Shapers.oneLink(16, 1);
        for (int leaf = 3; leaf <= 12; leaf++) {
            x.addLeaf(leaf, 1, 65536, 65536);
        }
        for (int leaf = 2; leaf <= 12; leaf++) {
            Sends.offerMany(x, leaf, 8, 1);
        }
        due.is("run(1), a full bucket and the packet that overdraws it", x.run(1), 2);
        due.is("run(1)", x.run(1), 1);
        due.is("run(3)", x.run(3), 3);
        due.is("run(65)", x.run(65), 64);
        due.is("run(0)", x.run(0), 0);
        due.is("run(-1)", x.run(-1), 0);
        due.is("sendCount()", x.sendCount(), 70);
        due.is("run(64), packets run out", x.run(64), 18);
        due.is("run(64), none left", x.run(64), 0);
    }

    /** The greatest answer of one call: all that 14 full queues hold. */
    private static void theGreatestAnswer() {
        HierShaper inOneTick = Shapers.loaded(65536, 65536, 65536);
        due.is("run(1)", inOneTick.run(1), Shapers.LOAD_PACKETS);
        HierShaper overTicks = Shapers.loaded(16000, 65536, 65536);
        due.is("run(64)", overTicks.run(64), Shapers.LOAD_PACKETS);
        due.is("run(64), none left", overTicks.run(64), 0);
    }

    public static void main(String[] args) throws InterruptedException {
        ticksBelowOneDoNothing();
        oneTickIsOne();
        ticksAbove64Are64();
        ticksComeInTurn();
        runChangesWhatTheDocumentSays();
        timeStandsStillInOtherCalls();
        timeStandsStillBetweenCalls();
        theRootIsRefilledToItsCapacity();
        rateBucketsAreRefilledToTheirCapacity();
        ceilBucketsAreRefilledToTheirCapacity();
        fullBucketsStayFull();
        debtsArePaidTickByTick();
        everyClassIsRefilled();
        missingClassesAreNotRefilled();
        refillComesBeforeSending();
        theAnswerCountsTheCall();
        theGreatestAnswer();
        due.end();
    }
}
