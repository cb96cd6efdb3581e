/** Compares answers with those that are due, and tells every one that is not. */
final class Checks {
    private int asked;
    private int wrong;

    void due(String call, long got, long want) {
        asked++;
        if (got != want) {
            wrong++;
            System.out.println(call + " answered " + got + ", due is " + want);
        }
    }

    void due(String call, boolean got, boolean want) {
        due(call, got ? 1 : 0, want ? 1 : 0);
    }

    /** Every process that is looked at: state, place, messages; one line of the table that a test reads at once. */
    void states(String where, MailProcesses x, int... want) {
        for (int p = 0; p < want.length; p++) {
            due(where + ": state(" + p + ")", x.state(p), want[p]);
        }
    }

    /** The whole queue, and that nothing stands behind it. */
    void queue(String where, MailProcesses x, int... want) {
        for (int k = 0; k < want.length; k++) {
            due(where + ": ready(" + k + ")", x.ready(k), want[k]);
        }
        due(where + ": ready(" + want.length + ")", x.ready(want.length), MailProcesses.NONE);
    }

    /** What was told since the start, the first one first; at most 16. */
    void told(String where, MailProcesses x, int... want) {
        due(where + ": count(1)", x.count(1), want.length);
        for (int i = 0; i < want.length; i++) {
            int k = want.length - 1 - i;
            due(where + ": told(" + k + ")", x.told(k), want[i]);
        }
    }

    /** A whole mailbox: tag and int of each message, in pairs. */
    void mail(String where, MailProcesses x, int p, int... pairs) {
        int count = pairs.length / 2;
        for (int k = 0; k < count; k++) {
            due(where + ": message(" + p + ", " + k + ", 0)", x.message(p, k, 0), pairs[2 * k]);
            due(where + ": message(" + p + ", " + k + ", 1)", x.message(p, k, 1), pairs[2 * k + 1]);
        }
        due(where + ": message(" + p + ", " + count + ", 0)", x.message(p, count, 0), 10000000000L);
    }

    void end() {
        System.out.println(wrong == 0 ? asked + " answers are as due" : wrong + " of " + asked + " answers are not as due");
        if (wrong != 0) {
            System.exit(1);
        }
    }
}
