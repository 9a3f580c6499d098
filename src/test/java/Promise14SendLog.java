import java.lang.reflect.Field;

/** Promise 14: send count and send log. Above each test stand the words it holds the program to. */
public final class Promise14SendLog {
    private static final Due due = new Due("Promise14SendLog");
    private static final int[] NEVER_IN_THE_LOG = {
        -1, 64, -2, 65, -63, -64, -65, 127, 128, 129, 65536, Integer.MIN_VALUE, Integer.MIN_VALUE + 1,
        Integer.MAX_VALUE
    };

    private static void noEntry(String when, HierShaper x, int... places) {
        for (int k : places) {
            due.is("logEntry(" + k + ") " + when, x.logEntry(k), -1);
        }
    }

    /** "`sendCount()` answers the number of packets sent since construction": not taken, dropped or waiting ones. */
    private static void onlySendsCount() {
        HierShaper x = Shapers.oneLink(16, 1);
        due.is("sendCount() of a new object", x.sendCount(), 0);
        Sends.offerMany(x, 2, 9, 255);
        due.is("sendCount() before a tick", x.sendCount(), 0);
        due.is("run(1)", x.run(1), 1);
        due.is("sendCount()", x.sendCount(), 1);
        due.is("run(64), in debt", x.run(64), 0);
        due.is("sendCount() after ticks without a send", x.sendCount(), 1);
    }

    /** "(an int that grows by 1 per send)": by as many as one call of run sends. */
    private static void theCountGrowsWithEverySend() {
        HierShaper x = Shapers.loaded(65536, 65536, 65536);
        due.is("run(1)", x.run(1), 112);
        due.is("sendCount()", x.sendCount(), 112);
        due.is("run(1), none left", x.run(1), 0);
        due.is("sendCount() after an empty tick", x.sendCount(), 112);
        Sends.offer(x, 2, 1);
        due.is("run(1)", x.run(1), 1);
        due.is("sendCount()", x.sendCount(), 113);
    }

    /** "and any k when nothing has been sent": of a new object, and of one with packets waiting. */
    private static void anEmptyLog() {
        HierShaper fresh = new HierShaper(256, 4, 2);
        HierShaper waiting = Shapers.wide(2);
        waiting.enqueue(2, 10);
        noEntry("of a new object", fresh, NEVER_IN_THE_LOG);
        noEntry("before a send", waiting, NEVER_IN_THE_LOG);
        for (int k = 0; k < 64; k++) {
            noEntry("of a new object", fresh, k);
            noEntry("before a send", waiting, k);
        }
    }

    private static int leafOf(int send) {
        return send % 3 == 0 ? 15 : 2;
    }

    private static int sizeOf(int send) {
        return send * 37 % 255 + 1;
    }

    /** A log after sends 1 to count, each in a tick of its own. */
    private static HierShaper logOf(int count) {
        HierShaper x = Shapers.wide(2, 15);
        for (int send = 1; send <= count; send++) {
            x.enqueue(leafOf(send), sizeOf(send));
            due.is("run(1)", x.run(1), 1);
        }
        due.is("sendCount()", x.sendCount(), count);
        return x;
    }

    private static void entry(HierShaper x, int k, int send) {
        due.is("logEntry(" + k + "), send " + send, x.logEntry(k), leafOf(send) + 64 * sizeOf(send));
    }

    /** "for 0 <= k < min(sendCount, 64)": below 64 sends it is the count that ends the log, */
    private static void theCountEndsAShortLog() {
        for (int count = 1; count <= 63; count++) {
            HierShaper x = logOf(count);
            entry(x, 0, count);
            entry(x, count - 1, 1);
            noEntry("after " + count + " sends", x, count, count + 1);
            noEntry("after " + count + " sends", x, NEVER_IN_THE_LOG);
        }
    }

    /** and from 64 on it is 64: "k >= 64" answers -1, and k = 63 the oldest that is kept. */
    private static void sixtyFourEndsALongLog() {
        for (int count = 64; count <= 200; count++) {
            HierShaper x = logOf(count);
            entry(x, 0, count);
            entry(x, 63, count - 63);
            noEntry("after " + count + " sends", x, 64, 65, count);
            noEntry("after " + count + " sends", x, NEVER_IN_THE_LOG);
        }
    }

    /** "the log entry of the (k+1)-th most recent send (k = 0 is the newest)": all of them, after every send. */
    private static void theNewestComesFirst() {
        HierShaper x = Shapers.wide(2, 15);
        for (int count = 1; count <= 200; count++) {
            x.enqueue(leafOf(count), sizeOf(count));
            x.run(1);
            for (int k = 0; k < Math.min(count, 64); k++) {
                entry(x, k, count - k);
            }
        }
    }

    /** "including negative k": whatever the log holds. */
    private static void negativePlacesHaveNone() {
        for (int count : new int[] {0, 1, 63, 64, 65, 128}) {
            HierShaper x = logOf(count);
            for (int k = -130; k < 0; k++) {
                noEntry("after " + count + " sends", x, k);
            }
        }
    }

    /** "The entry is leaf + 16*lendingLevel + 64*size.": at the ends of all three. */
    private static void entriesTellLeafLevelAndSize() {
        for (int leaf : new int[] {1, 8, 15}) {
            for (int level = 0; level <= 2; level++) {
                for (int size : new int[] {1, 255}) {
                    HierShaper x = Shapers.atLevel(level, leaf);
                    Sends.offer(x, leaf, size);
                    due.is("run(1)", x.run(1), 1);
                    due.is("logEntry(0)", x.logEntry(0), leaf + 16 * level + 64 * size);
                }
            }
        }
    }

    /** "Entries older than the 64 most recent are gone.": also when one call sends more than the log holds. */
    private static void olderEntriesAreGone() {
        HierShaper x = Shapers.wide(2, 3, 4, 5, 6, 7, 8, 9, 10, 11, 12, 13, 14, 15);
        Sends.offer(x, 2, 1);
        x.run(1);
        due.is("logEntry(0)", x.logEntry(0), 2 + 64);
        for (int leaf = 2; leaf <= 15; leaf++) {
            Sends.offer(x, leaf, 200, 201, 202, 203, 204, 205, 206, 207);
        }
        due.is("run(1)", x.run(1), 112);
        due.is("sendCount()", x.sendCount(), 113);
        for (int k = 0; k < 64; k++) {
            due.holds("logEntry(" + k + ") is one of the later sends", x.logEntry(k) >> 6 >= 200);
        }
        noEntry("after 113 sends", x, 64, 112, 113);
    }

    /**
     * The count is an int, so after 2,147,483,647 sends it goes on below 0. To reach that in time, the
     * program's own count is set. By the document's words no k is below such a count, and no call throws.
     */
    private static void theCountGoesRound() throws ReflectiveOperationException {
        Field count = HierShaper.class.getDeclaredField("sends");
        count.setAccessible(true);
        HierShaper x = logOf(100);
        count.setInt(x, Integer.MAX_VALUE - 1);
        sendOne(x, Integer.MAX_VALUE);
        due.is("logEntry(0)", x.logEntry(0), 2 + 64 * 9);
        sendOne(x, Integer.MIN_VALUE);
        noEntry("with the count below 0", x, 0, 1, 63, 64, -1, Integer.MIN_VALUE, Integer.MAX_VALUE);
        count.setInt(x, -2);
        sendOne(x, -1);
        sendOne(x, 0);
        noEntry("with the count at 0", x, 0, 1, 63, 64, -1);
        sendOne(x, 1);
        due.is("logEntry(0)", x.logEntry(0), 2 + 64 * 9);
        noEntry("with the count at 1", x, 1, 63, 64, -1);
    }

    private static void sendOne(HierShaper x, int wantCount) {
        Sends.offer(x, 2, 9);
        due.is("run(1)", x.run(1), 1);
        due.is("sendCount()", x.sendCount(), wantCount);
    }

    /** "Neither call changes anything." */
    private static void askingChangesNothing() {
        Twins.unchangedBy(due, "sendCount and logEntry", x -> {
            x.sendCount();
            for (int k = -65; k <= 130; k++) {
                x.logEntry(k);
            }
            x.logEntry(Integer.MIN_VALUE);
            x.logEntry(Integer.MAX_VALUE);
        });
    }

    public static void main(String[] args) throws ReflectiveOperationException {
        onlySendsCount();
        theCountGrowsWithEverySend();
        anEmptyLog();
        theCountEndsAShortLog();
        sixtyFourEndsALongLog();
        theNewestComesFirst();
        negativePlacesHaveNone();
        entriesTellLeafLevelAndSize();
        olderEntriesAreGone();
        theCountGoesRound();
        askingChangesNothing();
        due.end();
    }
}
