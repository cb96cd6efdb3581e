/** Promise 1: no processes, no modules, an empty draft. */
public final class NewObjectTest {
    public static void main(String[] args) {
        Checks checks = new Checks();
        checks.due("NONE", MailProcesses.NONE, -1);
        nothingIsThere(checks);
        objectsAreApart(checks);
        checks.end();
    }

    private static void nothingIsThere(Checks checks) {
        MailProcesses x = new MailProcesses();
        checks.states("new", x, 0, 0, 0, 0, 0, 0, 0, 0);
        for (int m = 0; m < 4; m++) {
            checks.due("spawn(" + m + ", 1)", x.spawn(m, 1), -1);
            checks.due("purge(" + m + ")", x.purge(m), 0);
            checks.due("load(" + m + ")", x.load(m), false);
        }
        for (int p = 0; p < 8; p++) {
            for (int what = 0; what < 9; what++) {
                checks.due("process(" + p + ", " + what + ")", x.process(p, what), -1);
            }
            checks.due("register(" + p + ", 0)", x.register(p, 0), 0);
            checks.due("message(" + p + ", 0, 0)", x.message(p, 0, 0), 10000000000L);
            checks.due("send(" + p + ", 0, 0)", x.send(p, 0, 0), false);
            checks.due("exit(" + p + ", 1)", x.exit(p, 1), false);
        }
        for (int what = 0; what < 6; what++) {
            checks.due("count(" + what + ")", x.count(what), 0);
        }
        checks.due("run(100)", x.run(100), 0);
        checks.due("ready(0)", x.ready(0), -1);
        checks.due("told(0)", x.told(0), 0);
        checks.due("wipe()", x.wipe(), 0);
    }

    private static void objectsAreApart(Checks checks) {
        MailProcesses x = new MailProcesses();
        MailProcesses y = new MailProcesses();
        Programs.module(x, 0, "TELL 0");
        Programs.draft(x, "TELL 0");
        x.spawn(0, 5);
        x.run(1);
        checks.due("y.state(0)", y.state(0), 0);
        checks.due("y.spawn(0, 1)", y.spawn(0, 1), -1);
        checks.due("y.wipe()", y.wipe(), 0);
        checks.due("y.count(1)", y.count(1), 0);
    }
}
