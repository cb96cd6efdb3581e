/** Promise 4: load makes the draft the current version and the current one the old one. */
public final class LoadTest {
    public static void main(String[] args) {
        Checks checks = new Checks();
        wrongInputs(checks);
        oldOneGoesOn(checks);
        oldInUse(checks);
        callLeadsToCurrent(checks);
        otherModulesStay(checks);
        longerOldVersion(checks);
        checks.end();
    }

    private static void wrongInputs(Checks checks) {
        MailProcesses x = new MailProcesses();
        checks.due("load(0) with an empty draft", x.load(0), false);
        Programs.draft(x, "TELL 0");
        for (int m : new int[] {-1, 4, Integer.MIN_VALUE, Integer.MAX_VALUE}) {
            checks.due("load(" + m + ")", x.load(m), false);
        }
        checks.due("the draft is there still: wipe()", x.wipe(), 1);
        checks.due("spawn(0, 0)", x.spawn(0, 0), -1);
    }

    private static void oldOneGoesOn(Checks checks) {
        MailProcesses x = new MailProcesses();
        Programs.module(x, 0, "RECEIVE 1 4", "TELL 0", "RECEIVE 1 4");
        x.spawn(0, 0);
        x.run(1);
        checks.due("process(0, 2)", x.process(0, 2), 0);
        Programs.module(x, 0, "SET 0 100", "TELL 0");
        checks.due("process(0, 2) behind the load", x.process(0, 2), 1);
        checks.due("process(0, 0) behind the load", x.process(0, 0), 0);
        x.spawn(0, 0);
        checks.due("process(1, 2)", x.process(1, 2), 0);
        x.send(0, 0, 5);
        x.run(2);
        checks.told("both versions", x, 100, 5);
        checks.due("process(0, 0)", x.process(0, 0), 2);
    }

    private static void oldInUse(Checks checks) {
        MailProcesses x = new MailProcesses();
        int p = Programs.waiter(x, 2, 1);
        Programs.module(x, 2, "TELL 0");
        Programs.draft(x, "TELL 1");
        checks.due("load(2) with one in the old version", x.load(2), false);
        checks.due("process(0, 2)", x.process(p, 2), 1);
        x.spawn(2, 6);
        x.run(1);
        checks.told("the current one is as it was", x, 6);
        x.exit(p, 1);
        checks.due("load(2) when that has ended", x.load(2), true);
        checks.due("wipe()", x.wipe(), 0);
        x.spawn(2, 6);
        x.run(1);
        checks.told("the new one", x, 6, 0);
    }

    private static void callLeadsToCurrent(Checks checks) {
        MailProcesses x = new MailProcesses();
        Programs.module(x, 0, "RECEIVE 1 4", "CALL 0");
        x.spawn(0, 0);
        x.run(1);
        Programs.module(x, 0, "TELL 0", "RECEIVE 1 4");
        x.send(0, 0, 44);
        x.run(1);
        checks.due("process(0, 2)", x.process(0, 2), 0);
        checks.due("process(0, 0)", x.process(0, 0), 1);
        checks.told("behind the CALL", x, 44);
        Programs.draft(x, "SET 0 0");
        checks.due("load(0): none is in the old one", x.load(0), true);
        checks.due("process(0, 2)", x.process(0, 2), 1);
    }

    private static void otherModulesStay(Checks checks) {
        MailProcesses x = new MailProcesses();
        int p = Programs.waiter(x, 1, 1);
        Programs.module(x, 0, "TELL 0");
        Programs.module(x, 0, "TELL 0");
        checks.due("process(0, 2)", x.process(p, 2), 0);
        checks.due("process(0, 1)", x.process(p, 1), 1);
        Programs.module(x, 1, "TELL 0");
        Programs.draft(x, "TELL 0");
        checks.due("load(0): what is old in 1 does not matter", x.load(0), true);
    }

    /** The old row is longer than the new one, so that nothing of either may shine through. */
    private static void longerOldVersion(Checks checks) {
        MailProcesses x = new MailProcesses();
        Programs.module(x, 3, "RECEIVE 1 4", "TELL 0", "TELL 1", "SET 2 8", "TELL 2");
        x.spawn(3, 0);
        x.run(1);
        Programs.module(x, 3, "SET 0 1");
        x.spawn(3, 0);
        x.send(0, 0, 7);
        x.run(2);
        checks.told("the old one, to its end", x, 7, 0, 8);
        checks.states("both", x, 3, 3);
        checks.due("count(0)", x.count(0), 1 + 1 + 5);
    }
}
