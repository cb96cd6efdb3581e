/** Promises 2 and 3: code appends to the draft, wipe empties it. */
public final class CodeTest {
    private static final int LEAST = Integer.MIN_VALUE;
    private static final int MOST = Integer.MAX_VALUE;

    /** op, then the least and greatest a, then the least and greatest b that are taken. */
    private static final int[][] OPERANDS = {
        {0, 0, 3, LEAST, MOST}, {1, 0, 3, 0, 3}, {2, 0, 3, 0, 3}, {3, 0, 3, 0, 3}, {4, 0, 23, LEAST, MOST},
        {5, 0, 3, 0, 23}, {6, 0, 3, 0, 5}, {7, 0, 255, 0, 4}, {8, 0, 3, 0, 1}, {9, 0, 3, LEAST, MOST},
        {10, 0, 3, LEAST, MOST}, {11, 0, 3, LEAST, MOST}, {12, 0, 3, LEAST, MOST}, {13, 0, 3, 0, 3},
        {14, 0, 3, LEAST, MOST}, {15, LEAST, MOST, 0, 1}, {16, 0, 3, LEAST, MOST}, {17, 0, 3, LEAST, MOST},
    };

    public static void main(String[] args) {
        Checks checks = new Checks();
        for (int[] row : OPERANDS) {
            edgesOfOperands(checks, row);
        }
        unknownOps(checks);
        fullDraft(checks);
        refusedChangesNothing(checks);
        wipeEmpties(checks);
        checks.end();
    }

    private static void edgesOfOperands(Checks checks, int[] row) {
        MailProcesses x = new MailProcesses();
        int op = row[0];
        int length = 0;
        for (int a : new int[] {row[1], row[2]}) {
            for (int b : new int[] {row[3], row[4]}) {
                length++;
                checks.due("code(" + op + ", " + a + ", " + b + ")", x.code(op, a, b), length);
            }
        }
        for (int side = 1; side <= 4; side++) {
            int edge = row[side];
            if (edge != LEAST && edge != MOST) {
                int beyond = side % 2 == 1 ? edge - 1 : edge + 1;
                int far = side % 2 == 1 ? LEAST : MOST;
                refused(checks, x, op, side <= 2 ? beyond : row[1], side <= 2 ? row[3] : beyond);
                refused(checks, x, op, side <= 2 ? far : row[1], side <= 2 ? row[3] : far);
            }
        }
        checks.due("op " + op + ": wipe()", x.wipe(), length);
    }

    private static void refused(Checks checks, MailProcesses x, int op, int a, int b) {
        checks.due("code(" + op + ", " + a + ", " + b + ")", x.code(op, a, b), -1);
    }

    private static void unknownOps(Checks checks) {
        MailProcesses x = new MailProcesses();
        for (int op : new int[] {-1, 18, 256, LEAST, MOST}) {
            checks.due("code(" + op + ", 0, 0)", x.code(op, 0, 0), -1);
        }
        checks.due("wipe()", x.wipe(), 0);
    }

    private static void fullDraft(Checks checks) {
        MailProcesses x = new MailProcesses();
        for (int i = 1; i <= 24; i++) {
            checks.due("code " + i, x.code(0, 0, i), i);
        }
        checks.due("code 25", x.code(17, 0, 0), -1);
        checks.due("load(0)", x.load(0), true);
        x.spawn(0, 0);
        x.run(10);
        checks.due("all 24 are done: count(0)", x.count(0), 24);
        checks.due("the 25th is not: count(1)", x.count(1), 0);
        checks.due("register(0, 0)", x.register(0, 0), 24);
    }

    private static void refusedChangesNothing(Checks checks) {
        MailProcesses x = new MailProcesses();
        Programs.draft(x, "SET 1 7");
        checks.due("code(0, 4, 9)", x.code(0, 4, 9), -1);
        checks.due("code(17, 1, 0)", x.code(17, 1, 0), 2);
        x.load(0);
        x.spawn(0, 0);
        x.run(1);
        checks.told("refused", x, 7);
    }

    private static void wipeEmpties(Checks checks) {
        MailProcesses x = new MailProcesses();
        checks.due("wipe()", x.wipe(), 0);
        Programs.draft(x, "SET 0 1", "SET 0 2", "SET 0 3");
        checks.due("wipe()", x.wipe(), 3);
        checks.due("wipe() again", x.wipe(), 0);
        checks.due("load(0)", x.load(0), false);
        Programs.draft(x, "TELL 0");
        checks.due("load(0)", x.load(0), true);
        checks.due("load empties the draft: wipe()", x.wipe(), 0);
        x.spawn(0, 8);
        x.run(1);
        checks.told("only what came behind the wipe", x, 8);
        checks.due("count(0)", x.count(0), 1);
    }
}
