import java.util.List;

/** Promise 4: load makes the draft the current version and the current one the old one. */
public final class LoadTest {
    public static void main(String[] args) {
        Checks checks = new Checks();
        draftBecomesCurrent(checks);
        draftIsEmptyThen(checks);
        currentBecomesOld(checks);
        oldOneIsReplaced(checks);
        longAndShortVersions(checks);
        noSuchModule(checks);
        draftIsEmpty(checks);
        aliveOneInTheOldVersion(checks);
        refusedKeepsTheDraft(checks);
        endedOneInTheOldVersion(checks);
        callLeadsOutOfTheOldVersion(checks);
        otherModulesStay(checks);
        checks.end();
    }

    private static void draftBecomesCurrent(Checks checks) {
        checks.says("load: The draft becomes module m's current version: true");
        MailProcesses x = new MailProcesses();
        for (int m = 0; m < 4; m++) {
            Programs.draft(x, "SET 1 " + (50 + m), "TELL 1");
            checks.due("load(" + m + ")", x.load(m), true);
        }
        for (int m = 0; m < 4; m++) {
            checks.due("spawn(" + m + ", 0)", x.spawn(m, 0), m);
        }
        x.run(4);
        checks.told("each its own", x, 50, 51, 52, 53);
    }

    private static void draftIsEmptyThen(Checks checks) {
        checks.says("load: The draft, which is empty then");
        MailProcesses x = new MailProcesses();
        Programs.draft(x, "TELL 0", "TELL 0");
        checks.due("load(0)", x.load(0), true);
        checks.due("load(0) again", x.load(0), false);
        checks.due("wipe()", x.wipe(), 0);
        checks.due("code(17, 0, 0)", x.code(17, 0, 0), 1);
    }

    private static void currentBecomesOld(Checks checks) {
        checks.says("load: and that which was it the old one");
        MailProcesses x = new MailProcesses();
        Programs.module(x, 0, "RECEIVE 1 4", "TELL 0", "RECEIVE 1 4");
        x.spawn(0, 0);
        x.run(1);
        checks.due("process(0, 2)", x.process(0, 2), 0);
        Programs.module(x, 0, "SET 0 100", "TELL 0");
        checks.due("process(0, 2) behind the load", x.process(0, 2), 1);
        checks.due("process(0, 1) behind the load", x.process(0, 1), 0);
        checks.due("process(0, 0) behind the load", x.process(0, 0), 0);
        x.spawn(0, 0);
        checks.due("process(1, 2)", x.process(1, 2), 0);
        x.send(0, 0, 5);
        x.run(2);
        checks.told("both versions", x, 100, 5);
        checks.due("process(0, 0)", x.process(0, 0), 2);
    }

    private static void oldOneIsReplaced(Checks checks) {
        checks.says("load: the old one that nobody is in gives way to that which was current");
        MailProcesses x = new MailProcesses();
        Programs.module(x, 1, "SET 1 1", "TELL 1");
        Programs.module(x, 1, "RECEIVE 1 4", "SET 1 2", "TELL 1");
        x.spawn(1, 0);
        x.run(1);
        Programs.draft(x, "SET 1 3", "TELL 1");
        checks.due("load(1), the third version", x.load(1), true);
        checks.due("process(0, 2)", x.process(0, 2), 1);
        x.spawn(1, 0);
        x.send(0, 0, 0);
        x.run(2);
        checks.told("the third and the second", x, 3, 2);
    }

    private static void longAndShortVersions(Checks checks) {
        checks.says("rows of 1 to 24 INSTRUCTIONS");
        MailProcesses x = new MailProcesses();
        String[] rows = new String[24];
        for (int i = 0; i < 24; i++) {
            rows[i] = i == 22 ? "RECEIVE 1 4" : "SET 2 " + i;
        }
        Programs.module(x, 3, rows);
        x.spawn(3, 0);
        x.run(3);
        checks.due("process(0, 0)", x.process(0, 0), 22);
        Programs.module(x, 3, "SET 2 100");
        x.spawn(3, 0);
        x.send(0, 0, 7);
        x.run(2);
        checks.states("both go to their ends", x, 3, 3);
        checks.due("one of 24: register(0, 2)", x.register(0, 2), 23);
        checks.due("one of 1: register(1, 2)", x.register(1, 2), 100);
        checks.due("count(0)", x.count(0), 23 + 2 + 1);
    }

    private static void noSuchModule(Checks checks) {
        checks.says("load: false, and nothing changes, if there is no such module");
        MailProcesses x = new MailProcesses();
        int p = Programs.waiter(x, 3, 1);
        Programs.draft(x, "TELL 0");
        List<String> before = Snapshot.of(x);
        for (int m : new int[] {-1, 4, 5, 8, Integer.MIN_VALUE, Integer.MAX_VALUE}) {
            checks.due("load(" + m + ")", x.load(m), false);
        }
        checks.unchanged("load", x, before);
        checks.due("it is in the current one still: process(0, 2)", x.process(p, 2), 0);
        checks.due("the draft is there still: wipe()", x.wipe(), 1);
        checks.due("spawn(0, 0)", x.spawn(0, 0), -1);
    }

    private static void draftIsEmpty(Checks checks) {
        checks.says("load: false, and nothing changes, if the draft is empty");
        MailProcesses x = new MailProcesses();
        checks.due("load(0) of a module without a version", x.load(0), false);
        checks.due("spawn(0, 0)", x.spawn(0, 0), -1);
        int p = Programs.waiter(x, 0, 1);
        List<String> before = Snapshot.of(x);
        checks.due("load(0) of a module with one", x.load(0), false);
        checks.unchanged("load(0)", x, before);
        checks.due("it is in the current one still: process(0, 2)", x.process(p, 2), 0);
        checks.due("that is no old one: purge(0)", x.purge(0), 0);
        checks.due("spawn(0, 3)", x.spawn(0, 3), 1);
    }

    private static void aliveOneInTheOldVersion(Checks checks) {
        checks.says("load: false, and nothing changes, if an alive process is in its old version");
        for (int state = 1; state <= 2; state++) {
            MailProcesses x = new MailProcesses();
            Programs.module(x, 2, "RECEIVE 1 4", "TELL 0");
            int p = x.spawn(2, 0);
            if (state == 2) {
                x.run(1);
            }
            Programs.module(x, 2, "TELL 0");
            Programs.draft(x, "TELL 1");
            checks.due("state(0)", x.state(p), state);
            List<String> before = Snapshot.of(x);
            checks.due("load(2)", x.load(2), false);
            checks.unchanged("load(2)", x, before);
            x.spawn(2, 6);
            x.send(p, 0, 9);
            x.run(2);
            checks.due("both versions are as they were: count(1)", x.count(1), 2);
            checks.due("their sum", x.told(0) + x.told(1), 6 + 9);
        }
    }

    private static void refusedKeepsTheDraft(Checks checks) {
        checks.says("load: what was refused can be loaded when the old version is free");
        MailProcesses x = new MailProcesses();
        int p = Programs.waiter(x, 2, 1);
        Programs.module(x, 2, "TELL 0");
        Programs.draft(x, "SET 1 70", "TELL 1");
        checks.due("load(2)", x.load(2), false);
        x.exit(p, 1);
        checks.due("load(2) behind its end", x.load(2), true);
        checks.due("wipe()", x.wipe(), 0);
        x.spawn(2, 6);
        x.run(1);
        checks.told("the draft as it was", x, 70);
    }

    private static void endedOneInTheOldVersion(Checks checks) {
        checks.says("load: an ENDED process in the old version does not count");
        MailProcesses x = new MailProcesses();
        Programs.module(x, 0, "RECEIVE 1 4");
        x.spawn(0, 0);
        x.spawn(0, 0);
        Programs.module(x, 0, "TELL 0");
        x.exit(0, 3);
        Programs.draft(x, "TELL 0");
        checks.due("load(0), one of two has ended", x.load(0), false);
        x.exit(1, 3);
        checks.due("load(0), both have", x.load(0), true);
        checks.states("as they ended", x, 3, 3);
        checks.due("process(0, 8)", x.process(0, 8), 3);
    }

    private static void callLeadsOutOfTheOldVersion(Checks checks) {
        checks.says("16 CALL: to the start of module a's current version, out of the old one");
        MailProcesses x = new MailProcesses();
        Programs.module(x, 0, "RECEIVE 1 4", "CALL 0");
        x.spawn(0, 0);
        x.run(1);
        Programs.module(x, 0, "TELL 0", "RECEIVE 1 4");
        x.send(0, 0, 44);
        x.run(1);
        checks.due("process(0, 2)", x.process(0, 2), 0);
        checks.due("process(0, 0)", x.process(0, 0), 1);
        checks.told("behind the CALL", x, 44);
        Programs.draft(x, "SET 0 0");
        checks.due("load(0): none is in the old one", x.load(0), true);
        checks.due("process(0, 2)", x.process(0, 2), 1);
    }

    private static void otherModulesStay(Checks checks) {
        checks.says("load: module m's versions, and no other's");
        MailProcesses x = new MailProcesses();
        for (int m = 0; m < 4; m++) {
            Programs.module(x, m, "RECEIVE 1 4", "TELL 0");
            x.spawn(m, 0);
        }
        x.run(4);
        Programs.module(x, 1, "TELL 0");
        for (int p = 0; p < 4; p++) {
            checks.due("process(" + p + ", 1)", x.process(p, 1), p);
            checks.due("process(" + p + ", 2)", x.process(p, 2), p == 1 ? 1 : 0);
        }
        Programs.draft(x, "TELL 0");
        checks.due("load(2): what is old in 1 does not matter", x.load(2), true);
        Programs.draft(x, "TELL 0");
        checks.due("load(0)", x.load(0), true);
        for (int p = 0; p < 4; p++) {
            checks.due("process(" + p + ", 2)", x.process(p, 2), p == 3 ? 0 : 1);
            x.send(p, 0, p);
        }
        x.run(4);
        checks.told("each goes on in its row", x, 0, 1, 2, 3);
    }
}
