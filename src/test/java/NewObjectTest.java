/** Promise 1: A new object. */
public final class NewObjectTest {
    public static void main(String[] args) {
        Checks checks = new Checks();
        noProcesses(checks);
        noModules(checks);
        emptyDraft(checks);
        timeIsZero(checks);
        nothingIsCounted(checks);
        noneIsMinusOne(checks);
        objectsAreApart(checks);
        checks.end();
    }

    private static void noProcesses(Checks checks) {
        checks.says("No processes");
        MailProcesses x = new MailProcesses();
        checks.states("new", x, 0, 0, 0, 0, 0, 0, 0, 0);
        checks.queue("new", x);
        for (int p = 0; p < 8; p++) {
            checks.whats("new", x, p, -1, -1, -1, -1, -1, -1, -1, -1, -1);
            checks.registers("new", x, p, 0, 0, 0, 0);
            checks.mail("new", x, p);
            checks.due("send(" + p + ", 0, 0)", x.send(p, 0, 0), false);
            checks.due("exit(" + p + ", 1)", x.exit(p, 1), false);
        }
    }

    private static void noModules(Checks checks) {
        checks.says("no modules");
        for (int m = 0; m < 4; m++) {
            MailProcesses x = new MailProcesses();
            checks.due("spawn(" + m + ", 1)", x.spawn(m, 1), -1);
            checks.due("purge(" + m + ")", x.purge(m), 0);
            checks.due("spawn(" + m + ", 1) behind the purge", x.spawn(m, 1), -1);
        }
    }

    private static void emptyDraft(Checks checks) {
        checks.says("an empty draft");
        for (int m = 0; m < 4; m++) {
            MailProcesses x = new MailProcesses();
            checks.due("load(" + m + ")", x.load(m), false);
            checks.due("wipe()", x.wipe(), 0);
            checks.due("code(17, 0, 0)", x.code(17, 0, 0), 1);
        }
    }

    private static void timeIsZero(Checks checks) {
        checks.says("TIME, 0 at first");
        MailProcesses x = new MailProcesses();
        checks.due("count(0)", x.count(0), 0);
        checks.due("run(100)", x.run(100), 0);
        checks.due("count(0) behind the run", x.count(0), 0);
    }

    private static void nothingIsCounted(Checks checks) {
        checks.says("A new object: nothing was told, made, lost or ended, and there was no turn");
        MailProcesses x = new MailProcesses();
        for (int what = 0; what < 6; what++) {
            checks.due("count(" + what + ")", x.count(what), 0);
        }
        for (int k = 0; k < 16; k++) {
            checks.due("told(" + k + ")", x.told(k), 0);
        }
    }

    private static void noneIsMinusOne(Checks checks) {
        checks.says("public static final int NONE = -1");
        checks.due("NONE", MailProcesses.NONE, -1);
    }

    private static void objectsAreApart(Checks checks) {
        checks.says("A new object, also while another one is in use");
        MailProcesses x = new MailProcesses();
        MailProcesses y = new MailProcesses();
        Programs.module(x, 0, "TELL 0");
        Programs.draft(x, "TELL 0");
        x.spawn(0, 5);
        x.run(1);
        checks.due("y.state(0)", y.state(0), 0);
        checks.due("y.spawn(0, 1)", y.spawn(0, 1), -1);
        checks.due("y.wipe()", y.wipe(), 0);
        checks.due("y.count(1)", y.count(1), 0);
        checks.due("new MailProcesses().count(1)", new MailProcesses().count(1), 0);
    }
}
