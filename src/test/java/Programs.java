import java.util.List;

/** Writes modules by the names of the instructions, so that a test can be read. */
final class Programs {
    private static final List<String> NAMES = List.of(
        "SET", "ADD", "SUB", "MOVE", "JUMP", "ZERO", "SEND", "RECEIVE", "SPAWN", "SELF",
        "LINK", "UNLINK", "MONITOR", "EXIT", "END", "TRAP", "CALL", "TELL");

    private Programs() {
    }

    /** Loads a module of rows such as "SET 2 7"; an operand that is left out is 0. */
    static void module(MailProcesses x, int m, String... rows) {
        draft(x, rows);
        if (!x.load(m)) {
            throw new IllegalStateException("load(" + m + ") was refused");
        }
    }

    static void draft(MailProcesses x, String... rows) {
        for (String row : rows) {
            String[] words = row.split(" ");
            int op = NAMES.indexOf(words[0]);
            int a = words.length > 1 ? Integer.parseInt(words[1]) : 0;
            int b = words.length > 2 ? Integer.parseInt(words[2]) : 0;
            if (x.code(op, a, b) < 1) {
                throw new IllegalStateException(row + " was refused");
            }
        }
    }

    /** A process of its own module that waits for the tags without an end. */
    static int waiter(MailProcesses x, int m, int tags) {
        module(x, m, "RECEIVE " + tags + " 4", "TELL 0", "TELL 1", "JUMP 0");
        int p = x.spawn(m, 0);
        x.run(1);
        return p;
    }
}
