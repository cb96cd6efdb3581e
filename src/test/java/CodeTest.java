import java.util.List;

/** Promises 2 and 3: code appends to the draft, wipe empties it. */
public final class CodeTest {
    private static final int LEAST = Integer.MIN_VALUE;
    private static final int MOST = Integer.MAX_VALUE;

    private static final int[] REGISTER_IN_A = {0, 1, 2, 3, 5, 6, 9, 10, 11, 12, 13, 14, 17};
    private static final int[] REGISTER_IN_B = {1, 2, 3, 13};
    private static final int[] FREE_B = {0, 4, 9, 10, 11, 12, 14, 16, 17};

    public static void main(String[] args) {
        Checks checks = new Checks();
        howManyItHas(checks);
        thereAre24(checks);
        opIsNone(checks);
        registers(checks);
        places(checks);
        tagsToSend(checks);
        tagsToReceive(checks);
        limits(checks);
        modules(checks);
        zeroOrOne(checks);
        notLookedAt(checks);
        refusedChangesNothing(checks);
        wipeAnswersHowMany(checks);
        wipeEmpties(checks);
        wipeLeavesTheRest(checks);
        checks.end();
    }

    /** The operand in the place of a or b, the other one being fit for every op. */
    private static int code(MailProcesses x, int op, boolean inA, int operand) {
        return inA ? x.code(op, operand, 0) : x.code(op, 0, operand);
    }

    /** least..most are taken, at both edges; what is beyond is refused, near and far. */
    private static void range(Checks checks, int op, boolean inA, int least, int most) {
        MailProcesses x = new MailProcesses();
        String call = "op " + op + (inA ? ", a " : ", b ");
        checks.due(call + least, code(x, op, inA, least), 1);
        checks.due(call + most, code(x, op, inA, most), 2);
        for (int beyond : new int[] {least - 1, most + 1, most + 256, LEAST, MOST}) {
            checks.due(call + beyond, code(x, op, inA, beyond), -1);
        }
        checks.due(call + ": wipe()", x.wipe(), 2);
    }

    private static void howManyItHas(Checks checks) {
        checks.says("Appends an instruction to the draft: how many it has");
        MailProcesses x = new MailProcesses();
        for (int i = 1; i <= 24; i++) {
            checks.due("code " + i, x.code(0, 0, i), i);
        }
        x.load(0);
        x.spawn(0, 0);
        x.run(1);
        checks.due("in their order: register(0, 0)", x.register(0, 0), 8);
        x.run(10);
        checks.due("all are done: count(0)", x.count(0), 24);
        checks.due("the last one last: register(0, 0)", x.register(0, 0), 24);
    }

    private static void thereAre24(Checks checks) {
        checks.says("code: NONE, and nothing changes, if there are 24");
        MailProcesses x = new MailProcesses();
        for (int i = 1; i <= 24; i++) {
            x.code(0, 0, i);
        }
        checks.due("code 25", x.code(17, 0, 0), -1);
        checks.due("code 26", x.code(17, 0, 0), -1);
        checks.due("load(0)", x.load(0), true);
        x.spawn(0, 0);
        x.run(10);
        checks.due("count(0)", x.count(0), 24);
        checks.due("nothing is told: count(1)", x.count(1), 0);
        checks.due("register(0, 0)", x.register(0, 0), 24);
    }

    private static void opIsNone(Checks checks) {
        checks.says("code: NONE, and nothing changes, if op is none");
        MailProcesses x = new MailProcesses();
        for (int op : new int[] {-1, 18, 19, 32, 256, LEAST, MOST}) {
            checks.due("code(" + op + ", 0, 0)", x.code(op, 0, 0), -1);
        }
        for (int op = 0; op < 18; op++) {
            checks.due("code(" + op + ", 0, 0)", x.code(op, 0, 0), op + 1);
        }
        checks.due("wipe()", x.wipe(), 18);
    }

    private static void registers(Checks checks) {
        checks.says("code: NONE if an operand that is looked at is none: registers 0..3");
        for (int op : REGISTER_IN_A) {
            range(checks, op, true, 0, 3);
        }
        for (int op : REGISTER_IN_B) {
            range(checks, op, false, 0, 3);
        }
    }

    private static void places(Checks checks) {
        checks.says("code: NONE if an operand that is looked at is none: places 0..23 (4, 5)");
        range(checks, 4, true, 0, 23);
        range(checks, 5, false, 0, 23);
    }

    private static void tagsToSend(Checks checks) {
        checks.says("code: NONE if an operand that is looked at is none: tags to send 0..5");
        range(checks, 6, false, 0, 5);
    }

    private static void tagsToReceive(Checks checks) {
        checks.says("code: NONE if an operand that is looked at is none: tags to receive 0..255");
        range(checks, 7, true, 0, 255);
    }

    private static void limits(Checks checks) {
        checks.says("code: NONE if an operand that is looked at is none: limits 0..4");
        range(checks, 7, false, 0, 4);
    }

    private static void modules(Checks checks) {
        checks.says("code: NONE if an operand that is looked at is none: modules 0..3");
        range(checks, 8, true, 0, 3);
        range(checks, 16, true, 0, 3);
    }

    private static void zeroOrOne(Checks checks) {
        checks.says("code: NONE if an operand that is looked at is none: b of 8 and 15 0 or 1");
        range(checks, 8, false, 0, 1);
        range(checks, 15, false, 0, 1);
    }

    private static void notLookedAt(Checks checks) {
        checks.says("code: an operand that is not looked at (or is any int, as b of SET) is never none");
        for (int op : FREE_B) {
            MailProcesses x = new MailProcesses();
            int length = 0;
            for (int b : new int[] {LEAST, -1, 4, 24, 256, MOST}) {
                length++;
                checks.due("code(" + op + ", 3, " + b + ")", x.code(op, 3, b), length);
            }
        }
        MailProcesses x = new MailProcesses();
        int length = 0;
        for (int a : new int[] {LEAST, -1, 4, 24, 256, MOST}) {
            length++;
            checks.due("code(15, " + a + ", 1)", x.code(15, a, 1), length);
        }
    }

    private static void refusedChangesNothing(Checks checks) {
        checks.says("code: NONE, and nothing changes");
        MailProcesses x = new MailProcesses();
        checks.due("an empty draft: code(0, 4, 9)", x.code(0, 4, 9), -1);
        Programs.draft(x, "SET 1 7");
        checks.due("code(0, 4, 9)", x.code(0, 4, 9), -1);
        checks.due("code(18, 1, 9)", x.code(18, 1, 9), -1);
        checks.due("code(17, 1, 0)", x.code(17, 1, 0), 2);
        x.load(0);
        x.spawn(0, 0);
        List<String> before = Snapshot.of(x);
        checks.due("code(4, 24, 0)", x.code(4, 24, 0), -1);
        checks.unchanged("code(4, 24, 0)", x, before);
        x.run(1);
        checks.told("only what was taken", x, 7);
        checks.due("count(0)", x.count(0), 2);
    }

    private static void wipeAnswersHowMany(Checks checks) {
        checks.says("wipe: how many instructions it had");
        for (int had : new int[] {0, 1, 3, 24}) {
            MailProcesses x = new MailProcesses();
            for (int i = 0; i < had; i++) {
                x.code(17, 0, 0);
            }
            checks.due("wipe()", x.wipe(), had);
            checks.due("wipe() again", x.wipe(), 0);
        }
    }

    private static void wipeEmpties(Checks checks) {
        checks.says("wipe: Empties the draft");
        MailProcesses x = new MailProcesses();
        Programs.draft(x, "SET 0 1", "SET 0 2", "SET 0 3");
        x.wipe();
        checks.due("load(0)", x.load(0), false);
        checks.due("code(17, 0, 0)", x.code(17, 0, 0), 1);
        checks.due("load(0)", x.load(0), true);
        x.spawn(0, 8);
        x.run(1);
        checks.told("only what came behind the wipe", x, 8);
        checks.due("count(0)", x.count(0), 1);
    }

    private static void wipeLeavesTheRest(Checks checks) {
        checks.says("wipe: the draft alone, no version and no process");
        MailProcesses x = new MailProcesses();
        int p = Programs.waiter(x, 1, 1);
        Programs.module(x, 1, "TELL 0");
        Programs.draft(x, "SET 0 1");
        List<String> before = Snapshot.of(x);
        checks.due("wipe()", x.wipe(), 1);
        checks.unchanged("wipe()", x, before);
        x.send(p, 0, 5);
        x.spawn(1, 6);
        x.run(2);
        checks.told("both versions", x, 5, 0, 6);
    }
}
