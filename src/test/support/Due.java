/** Counts the answers of a test that are not the ones that are due, and prints each. */
final class Due {
    private static final int SECONDS_FOR_A_TEST = 300;

    private final String test;
    private int checks = 0;
    private int wrong = 0;

    Due(String test) {
        this.test = test;
        Thread watch = new Thread(this::stopWhenTooLong);
        watch.setDaemon(true);
        watch.start();
    }

    /** A call that does not end is a fault as well, and must not keep the other tests waiting. */
    private void stopWhenTooLong() {
        try {
            Thread.sleep(SECONDS_FOR_A_TEST * 1000L);
        } catch (InterruptedException e) {
            return;
        }
        System.out.println(test + ": not done after " + SECONDS_FOR_A_TEST + " seconds");
        Runtime.getRuntime().halt(1);
    }

    void is(String call, long got, long want) {
        checks++;
        if (got != want) {
            wrong++;
            System.out.println(test + ": " + call + " answered " + got + ", due is " + want);
        }
    }

    void buckets(String when, HierShaper x, int id, long tokens, long ctokens) {
        is(when + ": tokens(" + id + ")", x.tokens(id), tokens);
        is(when + ": ctokens(" + id + ")", x.ctokens(id), ctokens);
    }

    void reads(String what, String got, String want) {
        checks++;
        if (!got.equals(want)) {
            wrong++;
            System.out.println(test + ": " + what + " is '" + got + "', due is '" + want + "'");
        }
    }

    void holds(String fact, boolean held) {
        checks++;
        if (!held) {
            wrong++;
            System.out.println(test + ": it does not hold that " + fact);
        }
    }

    /** Compares all that two shapers, or one shaper at two times, show to the outside. */
    boolean sameView(String when, long[] got, long[] want) {
        checks++;
        for (int i = 0; i < want.length; i++) {
            if (got[i] != want[i]) {
                wrong++;
                System.out.println(test + ": " + when + ": " + View.nameOf(i) + " answered " + got[i]
                        + ", due is " + want[i]);
                return false;
            }
        }
        return true;
    }

    boolean anyWrong() {
        return wrong > 0;
    }

    void end() {
        if (checks == 0) {
            System.out.println(test + ": nothing was checked");
        } else {
            System.out.println(test + ": " + checks + " checks, " + wrong + " wrong");
        }
        if (checks == 0 || wrong > 0) {
            System.exit(1);
        }
    }
}
