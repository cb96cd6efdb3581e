/** Promises 10 to 16: what can be read, and that reading changes nothing. */
public final class ReadTest {
    private static final int[] NUMBERS = {-1, 8, Integer.MIN_VALUE, Integer.MAX_VALUE};

    public static void main(String[] args) {
        Checks checks = new Checks();
        state(checks);
        processOfAnAliveOne(checks);
        processOfOthers(checks);
        register(checks);
        message(checks);
        ready(checks);
        told(checks);
        count(checks);
        checks.end();
    }

    private static void state(Checks checks) {
        MailProcesses x = new MailProcesses();
        Programs.module(x, 0, "ZERO 0 2", "RECEIVE 0 4");
        x.spawn(0, 0);
        x.spawn(0, 1);
        x.run(2);
        x.spawn(0, 0);
        x.spawn(0, 0);
        checks.states("each kind", x, 1, 2, 1, 0, 0, 0, 0, 0);
        x.exit(1, 5);
        checks.states("ended", x, 1, 3, 1, 0, 0, 0, 0, 0);
        for (int p : NUMBERS) {
            checks.due("state(" + p + ")", x.state(p), -1);
        }
    }

    private static void processOfAnAliveOne(Checks checks) {
        MailProcesses x = new MailProcesses();
        Programs.module(x, 1, "RECEIVE 0 4");
        Programs.module(x, 2, "TRAP 0 1", "LINK 1", "SET 2 1", "MONITOR 2", "LINK 2", "SET 2 30", "RECEIVE 1 2", "TELL 0");
        x.spawn(1, 0);
        x.spawn(1, 0);
        x.spawn(2, 0);
        x.run(3);
        x.send(2, 3, 0);
        x.send(2, 4, 0);
        int[] waiting = {6, 2, 0, 2, 3, 2, 1, 30, -1};
        for (int what = 0; what < waiting.length; what++) {
            checks.due("WAITING: process(2, " + what + ")", x.process(2, what), waiting[what]);
        }
        Programs.module(x, 2, "TELL 0");
        checks.due("old: process(2, 2)", x.process(2, 2), 1);
        checks.due("old: process(2, 1)", x.process(2, 1), 2);
        x.send(2, 0, 0);
        int[] ready = {6, 2, 1, 3, 3, 2, 1, -1, -1};
        for (int what = 0; what < ready.length; what++) {
            checks.due("READY: process(2, " + what + ")", x.process(2, what), ready[what]);
        }
        for (int what : new int[] {-1, 9, Integer.MIN_VALUE, Integer.MAX_VALUE}) {
            checks.due("process(2, " + what + ")", x.process(2, what), -1);
        }
    }

    private static void processOfOthers(Checks checks) {
        MailProcesses x = new MailProcesses();
        Programs.module(x, 0, "END 0");
        x.spawn(0, 44);
        x.run(1);
        for (int what = -1; what <= 9; what++) {
            checks.due("ENDED: process(0, " + what + ")", x.process(0, what), what == 8 ? 44 : -1);
            checks.due("no process yet: process(1, " + what + ")", x.process(1, what), -1);
            for (int p : NUMBERS) {
                checks.due("process(" + p + ", " + what + ")", x.process(p, what), -1);
            }
        }
        x.spawn(0, 1);
        checks.due("alive again: process(0, 8)", x.process(0, 8), -1);
    }

    private static void register(Checks checks) {
        MailProcesses x = new MailProcesses();
        Programs.module(x, 0, "SET 1 11", "SET 2 12", "SET 3 13", "RECEIVE 0 4");
        x.spawn(0, 10);
        x.spawn(0, 20);
        x.run(1);
        for (int r = 0; r < 4; r++) {
            checks.due("register(0, " + r + ")", x.register(0, r), 10 + r);
            checks.due("register(1, " + r + ")", x.register(1, r), r == 0 ? 20 : 0);
            checks.due("register(2, " + r + ")", x.register(2, r), 0);
            for (int p : NUMBERS) {
                checks.due("register(" + p + ", " + r + ")", x.register(p, r), 0);
            }
        }
        for (int r : new int[] {-1, 4, 5, Integer.MIN_VALUE, Integer.MAX_VALUE}) {
            checks.due("register(0, " + r + ")", x.register(0, r), 0);
        }
        x.exit(0, 1);
        for (int r = 0; r < 4; r++) {
            checks.due("ENDED: register(0, " + r + ")", x.register(0, r), 10 + r);
        }
    }

    private static void message(Checks checks) {
        MailProcesses x = new MailProcesses();
        int p = Programs.waiter(x, 0, 1);
        x.spawn(0, 0);
        x.send(p, 3, -9);
        x.send(p, 5, Integer.MAX_VALUE);
        x.send(1, 1, 1);
        checks.mail("two", x, p, 3, -9, 5, Integer.MAX_VALUE);
        long none = 10000000000L;
        for (int k : new int[] {-1, 2, 11, 12, 13, Integer.MIN_VALUE, Integer.MAX_VALUE}) {
            checks.due("message(0, " + k + ", 0)", x.message(p, k, 0), none);
            checks.due("message(0, " + k + ", 1)", x.message(p, k, 1), none);
        }
        for (int what : new int[] {-1, 2, Integer.MIN_VALUE, Integer.MAX_VALUE}) {
            checks.due("message(0, 0, " + what + ")", x.message(p, 0, what), none);
        }
        for (int q : NUMBERS) {
            checks.due("message(" + q + ", 0, 0)", x.message(q, 0, 0), none);
        }
        checks.due("message(7, 0, 0)", x.message(7, 0, 0), none);
        x.exit(p, 1);
        checks.due("ENDED: message(0, 0, 0)", x.message(p, 0, 0), none);
        checks.mail("another's", x, 1, 1, 1);
    }

    private static void ready(Checks checks) {
        MailProcesses x = new MailProcesses();
        Programs.module(x, 0, "JUMP 0");
        for (int p = 0; p < 8; p++) {
            x.spawn(0, 0);
        }
        x.run(3);
        checks.queue("all eight", x, 3, 4, 5, 6, 7, 0, 1, 2);
        for (int k : NUMBERS) {
            checks.due("ready(" + k + ")", x.ready(k), -1);
        }
        x.exit(5, 1);
        x.exit(2, 1);
        checks.queue("who has ended stands in it no more", x, 3, 4, 6, 7, 0, 1);
    }

    private static void told(Checks checks) {
        MailProcesses x = new MailProcesses();
        Programs.module(x, 0, "SET 1 1", "ADD 0 1", "TELL 0", "JUMP 1");
        x.spawn(0, 1000);
        x.run(1);
        checks.told("two", x, 1001, 1002);
        checks.due("told(2)", x.told(2), 0);
        x.run(20);
        int latest = 1000 + x.count(1);
        for (int k = 0; k < 16; k++) {
            checks.due("told(" + k + ")", x.told(k), latest - k);
        }
        for (int k : new int[] {-1, 16, 17, Integer.MIN_VALUE, Integer.MAX_VALUE}) {
            checks.due("told(" + k + ")", x.told(k), 0);
        }
    }

    private static void count(Checks checks) {
        MailProcesses x = new MailProcesses();
        Programs.module(x, 0, "TELL 0", "SET 1 7", "SEND 1 0", "SPAWN 1 0", "TELL 1");
        Programs.module(x, 1, "RECEIVE 0 4");
        x.spawn(0, 0);
        x.run(3);
        int[] counts = {6, 2, 2, 2, 1, 1};
        for (int what = 0; what < counts.length; what++) {
            checks.due("count(" + what + ")", x.count(what), counts[what]);
        }
        for (int what : new int[] {-1, 6, Integer.MIN_VALUE, Integer.MAX_VALUE}) {
            checks.due("count(" + what + ")", x.count(what), -1);
        }
        checks.due("count(0) is read without a change", x.count(0), 6);
    }
}
