import java.util.List;

/** Promise 5: purge ends all that are in the old version. */
public final class PurgeTest {
    public static void main(String[] args) {
        Checks checks = new Checks();
        noSuchModule(checks);
        nobodyToEnd(checks);
        allInTheOldVersion(checks);
        onlyTheOldVersion(checks);
        onlyTheModule(checks);
        trappingOnesToo(checks);
        byNumbers(checks);
        allThatComesBeforeTheNext(checks);
        aliveStillThen(checks);
        signalsOfReasonEight(checks);
        noOldVersionThen(checks);
        allEight(checks);
        checks.end();
    }

    private static void noSuchModule(Checks checks) {
        checks.says("purge: NONE if there is no such module");
        MailProcesses x = new MailProcesses();
        Programs.waiter(x, 3, 1);
        Programs.module(x, 3, "TELL 0");
        List<String> before = Snapshot.of(x);
        for (int m : new int[] {-1, 4, 5, 8, Integer.MIN_VALUE, Integer.MAX_VALUE}) {
            checks.due("purge(" + m + ")", x.purge(m), -1);
        }
        checks.unchanged("purge", x, before);
    }

    private static void nobodyToEnd(Checks checks) {
        checks.says("purge: how many ended so, 0 where none is in an old version");
        MailProcesses x = new MailProcesses();
        checks.due("purge(0) without a version", x.purge(0), 0);
        Programs.module(x, 0, "RECEIVE 1 4");
        checks.due("purge(0) without an old version", x.purge(0), 0);
        x.spawn(0, 0);
        checks.due("purge(0) with one in the current version", x.purge(0), 0);
        x.exit(0, 1);
        Programs.module(x, 0, "RECEIVE 1 4");
        checks.due("purge(0) with an ENDED one in the old version", x.purge(0), 0);
        checks.due("it ended once: count(5)", x.count(5), 1);
        checks.due("process(0, 8)", x.process(0, 8), 1);
    }

    private static void allInTheOldVersion(Checks checks) {
        checks.says("purge: All that are in the old version of m end with reason 8");
        MailProcesses x = new MailProcesses();
        Programs.module(x, 0, "RECEIVE 1 4");
        x.spawn(0, 0);
        x.run(1);
        x.spawn(0, 0);
        Programs.module(x, 0, "TELL 0");
        checks.states("one WAITING, one READY", x, 2, 1);
        checks.due("purge(0)", x.purge(0), 2);
        checks.states("purged", x, 3, 3);
        checks.due("process(0, 8)", x.process(0, 8), 8);
        checks.due("process(1, 8)", x.process(1, 8), 8);
        checks.due("count(5)", x.count(5), 2);
        checks.queue("who was READY stands in it no more", x);
    }

    private static void onlyTheOldVersion(Checks checks) {
        checks.says("purge: in the old version, not in the current one");
        MailProcesses x = new MailProcesses();
        Programs.module(x, 2, "RECEIVE 1 4", "CALL 2");
        x.spawn(2, 0);
        x.spawn(2, 0);
        x.run(2);
        Programs.module(x, 2, "RECEIVE 2 4");
        x.send(1, 0, 0);
        x.run(1);
        x.spawn(2, 0);
        checks.due("purge(2)", x.purge(2), 1);
        checks.states("1 called the current one, 2 was made in it", x, 3, 2, 1);
    }

    private static void onlyTheModule(Checks checks) {
        checks.says("purge: the old version of m, and no other module's");
        MailProcesses x = new MailProcesses();
        for (int m = 0; m < 4; m++) {
            Programs.module(x, m, "RECEIVE 0 4");
            x.spawn(m, 0);
            Programs.module(x, m, "TELL 0");
        }
        int[] order = {3, 1, 0, 2};
        for (int i = 0; i < 4; i++) {
            checks.due("purge(" + order[i] + ")", x.purge(order[i]), 1);
            checks.due("state(" + order[i] + ")", x.state(order[i]), 3);
            checks.due("count(5)", x.count(5), i + 1);
        }
    }

    private static void trappingOnesToo(Checks checks) {
        checks.says("purge: All that are in the old version, also who TRAPS");
        MailProcesses x = new MailProcesses();
        Programs.module(x, 0, "TRAP 0 1", "ZERO 0 3", "LINK 1", "RECEIVE 0 4");
        x.spawn(0, 0);
        x.spawn(0, 1);
        x.run(2);
        Programs.module(x, 0, "TELL 0");
        checks.due("1 traps the signal of 0, and is ended so: purge(0)", x.purge(0), 2);
        checks.states("purged", x, 3, 3);
        checks.due("process(1, 8)", x.process(1, 8), 8);
        checks.due("count(5)", x.count(5), 2);
    }

    /** Module 1 is a watcher: it monitors what the ints of its messages with tag 0 say. */
    private static int watcher(MailProcesses x, int... watched) {
        Programs.module(x, 1, "RECEIVE 1 4", "MONITOR 0", "JUMP 0");
        int watcher = x.spawn(1, 0);
        x.run(8);
        for (int p : watched) {
            x.send(watcher, 0, p);
            x.run(1);
        }
        return watcher;
    }

    private static void byNumbers(Checks checks) {
        checks.says("purge: by numbers");
        MailProcesses x = new MailProcesses();
        Programs.module(x, 0, "RECEIVE 0 4");
        x.spawn(0, 0);
        x.spawn(0, 0);
        x.spawn(0, 0);
        x.exit(0, 1);
        x.spawn(0, 0);
        checks.queue("the queue has another order", x, 1, 2, 0);
        int watcher = watcher(x, 2, 1, 0);
        Programs.module(x, 0, "TELL 0");
        checks.due("purge(0)", x.purge(0), 3);
        checks.mail("told", x, watcher, 7, 64, 7, 65, 7, 66);
    }

    private static void allThatComesBeforeTheNext(Checks checks) {
        checks.says("purge: each with all that comes of it before the next");
        MailProcesses x = new MailProcesses();
        // 0 and 1 are in module 0; 2 is linked with 0, 3 with 2, both in module 2.
        Programs.module(x, 0, "RECEIVE 0 4");
        Programs.module(x, 2, "LINK 0", "RECEIVE 0 4");
        x.spawn(0, 0);
        x.spawn(0, 0);
        x.spawn(2, 0);
        x.spawn(2, 2);
        x.run(4);
        int watcher = watcher(x, 0, 1, 2, 3);
        Programs.module(x, 0, "TELL 0");
        checks.due("purge(0)", x.purge(0), 2);
        checks.mail("0, then 2 and 3, then 1", x, watcher, 7, 64, 7, 66, 7, 67, 7, 65);
        checks.due("count(5)", x.count(5), 4);
    }

    private static void aliveStillThen(Checks checks) {
        checks.says("purge: each that is alive still then: how many ended so (not by what came of others)");
        MailProcesses x = new MailProcesses();
        // 0, 1 and 2 are in module 0; 1 is linked with 0 and ends by that.
        Programs.module(x, 0, "ZERO 0 2", "LINK 1", "RECEIVE 0 4");
        x.spawn(0, 0);
        x.spawn(0, 1);
        x.spawn(0, 0);
        x.run(3);
        checks.due("process(0, 4)", x.process(0, 4), 2);
        Programs.module(x, 0, "TELL 0");
        checks.due("purge(0)", x.purge(0), 2);
        checks.states("purged", x, 3, 3, 3);
        checks.due("process(1, 8)", x.process(1, 8), 8);
        checks.due("count(5)", x.count(5), 3);
    }

    private static void signalsOfReasonEight(Checks checks) {
        checks.says("purge: what comes of an end with reason 8 (a signal of 8, which is no EXIT with 9)");
        MailProcesses x = new MailProcesses();
        Programs.module(x, 0, "RECEIVE 0 4");
        Programs.module(x, 1, "TRAP 0 1", "LINK 0", "RECEIVE 64 4");
        x.spawn(0, 0);
        x.spawn(1, 0);
        x.run(2);
        Programs.module(x, 0, "TELL 0");
        checks.due("purge(0)", x.purge(0), 1);
        checks.mail("who traps goes on", x, 1, 6, 64);
        checks.queue("and is woken", x, 1);
    }

    private static void noOldVersionThen(Checks checks) {
        checks.says("purge: it has no old version then");
        MailProcesses x = new MailProcesses();
        Programs.waiter(x, 0, 1);
        Programs.module(x, 0, "RECEIVE 1 4", "SET 1 2", "TELL 1");
        Programs.draft(x, "SET 1 3", "TELL 1");
        checks.due("load(0)", x.load(0), false);
        checks.due("purge(0)", x.purge(0), 1);
        checks.due("purge(0) again", x.purge(0), 0);
        x.spawn(0, 0);
        x.run(1);
        checks.due("load(0) is free then", x.load(0), true);
        checks.due("the current one is the old one now: process(0, 2)", x.process(0, 2), 1);
        x.send(0, 0, 0);
        x.run(1);
        checks.told("it goes on in it", x, 2);
        checks.due("purge(0)", x.purge(0), 0);
    }

    private static void allEight(Checks checks) {
        checks.says("purge: how many ended so, 8 where all are in the old version");
        MailProcesses x = new MailProcesses();
        Programs.module(x, 1, "RECEIVE 0 4");
        for (int p = 0; p < 8; p++) {
            x.spawn(1, 0);
        }
        Programs.module(x, 1, "TELL 0");
        checks.due("purge(1)", x.purge(1), 8);
        checks.states("purged", x, 3, 3, 3, 3, 3, 3, 3, 3);
        checks.due("spawn(1, 0)", x.spawn(1, 0), 0);
    }
}
