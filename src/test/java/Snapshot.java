import java.util.ArrayList;
import java.util.List;

/** Everything that can be read of an object, in as few calls as that takes: an object has only 512. */
final class Snapshot {
    private Snapshot() {
    }

    static List<String> of(MailProcesses x) {
        List<String> lines = new ArrayList<>();
        for (int p = 0; p < 8; p++) {
            int state = x.state(p);
            lines.add("state(" + p + ") " + state);
            if (state == 1 || state == 2) {
                addAlive(lines, x, p);
            }
            if (state == 3) {
                lines.add("process(" + p + ", 8) " + x.process(p, 8));
            }
            for (int r = 0; r < 4 && state != 0; r++) {
                lines.add("register(" + p + ", " + r + ") " + x.register(p, r));
            }
        }
        addQueue(lines, x);
        for (int what = 0; what < 6; what++) {
            lines.add("count(" + what + ") " + x.count(what));
        }
        for (int k = 0; k < Math.min(16, x.count(1)); k++) {
            lines.add("told(" + k + ") " + x.told(k));
        }
        return lines;
    }

    private static void addAlive(List<String> lines, MailProcesses x, int p) {
        for (int what = 0; what < 8; what++) {
            lines.add("process(" + p + ", " + what + ") " + x.process(p, what));
        }
        int messages = Math.min(12, x.process(p, 3));
        for (int k = 0; k < messages; k++) {
            lines.add("message(" + p + ", " + k + ") " + x.message(p, k, 0) + " " + x.message(p, k, 1));
        }
    }

    private static void addQueue(List<String> lines, MailProcesses x) {
        for (int k = 0; k < 8; k++) {
            int p = x.ready(k);
            lines.add("ready(" + k + ") " + p);
            if (p == MailProcesses.NONE) {
                return;
            }
        }
    }
}
