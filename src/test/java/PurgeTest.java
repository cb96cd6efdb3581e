/** Promise 5: purge ends all that are in the old version. */
public final class PurgeTest {
    public static void main(String[] args) {
        Checks checks = new Checks();
        wrongInputs(checks);
        onlyTheOldVersion(checks);
        eachModuleForItself(checks);
        byNumbersWithWhatComes(checks);
        trappingOnesEndToo(checks);
        checks.end();
    }

    private static void wrongInputs(Checks checks) {
        MailProcesses x = new MailProcesses();
        int p = Programs.waiter(x, 0, 1);
        Programs.module(x, 0, "TELL 0");
        for (int m : new int[] {-1, 4, Integer.MIN_VALUE, Integer.MAX_VALUE}) {
            checks.due("purge(" + m + ")", x.purge(m), -1);
        }
        checks.due("purge(1)", x.purge(1), 0);
        checks.due("state(0)", x.state(p), 2);
    }

    private static void onlyTheOldVersion(Checks checks) {
        MailProcesses x = new MailProcesses();
        Programs.module(x, 0, "RECEIVE 1 4");
        checks.due("purge(0) without an old version", x.purge(0), 0);
        x.spawn(0, 0);
        x.spawn(0, 0);
        checks.due("purge(0) with two in the current version", x.purge(0), 0);
        Programs.module(x, 0, "RECEIVE 2 4");
        Programs.module(x, 1, "RECEIVE 2 4");
        x.spawn(0, 0);
        x.spawn(1, 0);
        x.run(1);
        Programs.module(x, 1, "TELL 0");
        checks.due("purge(0): one WAITING, one READY", x.purge(0), 2);
        checks.states("purged", x, 3, 3, 1, 1);
        checks.due("process(0, 8)", x.process(0, 8), 8);
        checks.due("process(1, 8)", x.process(1, 8), 8);
        checks.due("count(5)", x.count(5), 2);
        checks.queue("purged: who was READY is gone", x, 2, 3);
        checks.due("purge(0) again", x.purge(0), 0);
        Programs.draft(x, "TELL 0");
        checks.due("load(0) is free then", x.load(0), true);
    }

    private static void eachModuleForItself(Checks checks) {
        MailProcesses x = new MailProcesses();
        for (int m = 0; m < 4; m++) {
            Programs.module(x, m, "RECEIVE 0 4");
            x.spawn(m, 0);
            Programs.module(x, m, "TELL 0");
        }
        int[] order = {3, 1, 0, 2};
        for (int i = 0; i < 4; i++) {
            checks.due("purge(" + order[i] + ")", x.purge(order[i]), 1);
            checks.due("state(" + order[i] + ")", x.state(order[i]), 3);
            checks.due("count(5)", x.count(5), i + 1);
        }
    }

    private static void byNumbersWithWhatComes(Checks checks) {
        MailProcesses x = new MailProcesses();
        // 0, 1 and 2 are in module 0; 1 is linked with 0 and ends by that, so it is not counted.
        Programs.module(x, 0, "ZERO 0 2", "LINK 1", "RECEIVE 0 4");
        Programs.module(x, 1, "SET 1 0", "MONITOR 1", "SET 1 1", "MONITOR 1", "SET 1 2", "MONITOR 1", "RECEIVE 0 4");
        x.spawn(0, 0);
        x.spawn(0, 1);
        x.spawn(0, 0);
        x.spawn(1, 0);
        x.run(4);
        checks.due("process(0, 4)", x.process(0, 4), 2);
        Programs.module(x, 0, "TELL 0");
        checks.due("purge(0)", x.purge(0), 2);
        checks.states("purged", x, 3, 3, 3, 2);
        checks.due("process(1, 8)", x.process(1, 8), 8);
        checks.due("count(5)", x.count(5), 3);
        checks.mail("in the order of the endings", x, 3, 7, 64, 7, 65, 7, 66);
    }

    private static void trappingOnesEndToo(Checks checks) {
        MailProcesses x = new MailProcesses();
        Programs.module(x, 0, "TRAP 0 1", "ZERO 0 3", "LINK 1", "RECEIVE 0 4");
        x.spawn(0, 0);
        x.spawn(0, 1);
        x.run(2);
        Programs.module(x, 0, "TELL 0");
        checks.due("purge(0): the signal to 1 is trapped, and it is ended so", x.purge(0), 2);
        checks.states("purged", x, 3, 3);
        checks.due("count(5)", x.count(5), 2);
    }
}
