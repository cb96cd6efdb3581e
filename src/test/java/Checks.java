import java.util.List;

/** Compares answers with those that are due, and tells every one that is not, with the sentence that asks for it. */
final class Checks {
    private int asked;
    private int wrong;
    private int sentences;
    private String sentence = "";
    private int askedBeforeTheSentence;

    /** The sentence of the document, or one case of it, that all answers up to the next one are held against. */
    void says(String words) {
        closeSentence();
        sentence = words;
        sentences++;
        askedBeforeTheSentence = asked;
    }

    private void closeSentence() {
        if (sentences > 0 && asked == askedBeforeTheSentence) {
            wrong++;
            System.out.println("\"" + sentence + "\": nothing was asked");
        }
    }

    void due(String call, long got, long want) {
        asked++;
        if (got != want) {
            wrong++;
            String from = sentences == 0 ? "" : "\"" + sentence + "\": ";
            System.out.println(from + call + " answered " + got + ", due is " + want);
        }
    }

    void due(String call, boolean got, boolean want) {
        due(call, got ? 1 : 0, want ? 1 : 0);
    }

    /** The states of the processes 0, 1 and so on. */
    void states(String where, MailProcesses x, int... want) {
        for (int p = 0; p < want.length; p++) {
            due(where + ": state(" + p + ")", x.state(p), want[p]);
        }
    }

    /** The whole queue, and that nothing stands behind it. */
    void queue(String where, MailProcesses x, int... want) {
        for (int k = 0; k < want.length; k++) {
            due(where + ": ready(" + k + ")", x.ready(k), want[k]);
        }
        due(where + ": ready(" + want.length + ")", x.ready(want.length), MailProcesses.NONE);
    }

    /** What was told since the start, the first one first; at most 16. */
    void told(String where, MailProcesses x, int... want) {
        due(where + ": count(1)", x.count(1), want.length);
        for (int i = 0; i < want.length; i++) {
            int k = want.length - 1 - i;
            due(where + ": told(" + k + ")", x.told(k), want[i]);
        }
    }

    /** A whole mailbox: tag and int of each message, in pairs. */
    void mail(String where, MailProcesses x, int p, int... pairs) {
        int count = pairs.length / 2;
        for (int k = 0; k < count; k++) {
            due(where + ": message(" + p + ", " + k + ", 0)", x.message(p, k, 0), pairs[2 * k]);
            due(where + ": message(" + p + ", " + k + ", 1)", x.message(p, k, 1), pairs[2 * k + 1]);
        }
        due(where + ": message(" + p + ", " + count + ", 0)", x.message(p, count, 0), 10000000000L);
    }

    void registers(String where, MailProcesses x, int p, int... want) {
        for (int r = 0; r < want.length; r++) {
            due(where + ": register(" + p + ", " + r + ")", x.register(p, r), want[r]);
        }
    }

    /** process(p, 0), process(p, 1) and so on. */
    void whats(String where, MailProcesses x, int p, int... want) {
        for (int what = 0; what < want.length; what++) {
            due(where + ": process(" + p + ", " + what + ")", x.process(p, what), want[what]);
        }
    }

    /** Everything that can be read is as Snapshot.of had it. */
    void unchanged(String where, MailProcesses x, List<String> before) {
        List<String> after = Snapshot.of(x);
        for (int i = 0; i < Math.min(before.size(), after.size()); i++) {
            due(where + ": what was " + before.get(i) + " is " + after.get(i), before.get(i).equals(after.get(i)), true);
        }
        due(where + ": how much can be read", after.size(), before.size());
    }

    void end() {
        closeSentence();
        String on = sentences == 0 ? "" : " on " + sentences + " sentences";
        System.out.println(wrong == 0 ? asked + " answers" + on + " are as due" : wrong + " of " + asked + " answers are not as due");
        if (wrong != 0) {
            System.exit(1);
        }
    }
}
