/** Promise 17: order and limits, as far as no other test has them, and no call that fails in any state. */
public final class OrderTest {
    private static final int[] ODD = {Integer.MIN_VALUE, -2, -1, 0, 1, 3, 4, 7, 8, 9, 23, 24, 100, 101, 256, Integer.MAX_VALUE};

    public static void main(String[] args) {
        Checks checks = new Checks();
        refusedCallsChangeNothing(checks);
        whatIsCountedAsLost(checks);
        turnThatOnlyEnds(checks);
        anyArgumentsInAnyState(checks);
        longAfterTheLastPromisedCall(checks);
        checks.end();
    }

    private static long sum(MailProcesses x) {
        long sum = 0;
        for (int p = 0; p < 8; p++) {
            sum = sum * 31 + x.state(p);
            for (int what = 0; what < 9; what++) {
                sum = sum * 31 + x.process(p, what);
            }
            for (int r = 0; r < 4; r++) {
                sum = sum * 31 + x.register(p, r);
            }
            sum = sum * 31 + x.message(p, 0, 1);
            sum = sum * 31 + x.ready(p);
        }
        for (int what = 0; what < 6; what++) {
            sum = sum * 31 + x.count(what);
        }
        return sum;
    }

    private static void refusedCallsChangeNothing(Checks checks) {
        MailProcesses x = new MailProcesses();
        Programs.module(x, 0, "RECEIVE 1 4", "TELL 0");
        x.spawn(0, 3);
        x.spawn(0, 4);
        x.run(1);
        x.exit(1, 2);
        Programs.module(x, 0, "RECEIVE 2 4");
        Programs.draft(x, "TELL 0");
        x.spawn(0, 5);
        long before = sum(x);
        checks.due("code(18, 0, 0)", x.code(18, 0, 0), -1);
        checks.due("load(0)", x.load(0), false);
        checks.due("load(4)", x.load(4), false);
        checks.due("purge(4)", x.purge(4), -1);
        checks.due("spawn(1, 1)", x.spawn(1, 1), -1);
        checks.due("send(2, 0, 1)", x.send(2, 0, 1), false);
        checks.due("send(0, 6, 1)", x.send(0, 6, 1), false);
        checks.due("exit(2, 1)", x.exit(2, 1), false);
        checks.due("run(0)", x.run(0), -1);
        checks.due("run(101)", x.run(101), -1);
        checks.due("everything that can be read", sum(x), before);
        checks.due("wipe()", x.wipe(), 1);
    }

    private static void whatIsCountedAsLost(Checks checks) {
        MailProcesses x = new MailProcesses();
        Programs.module(x, 0, "RECEIVE 0 4");
        Programs.module(x, 1, "TRAP 0 1", "LINK 0", "MONITOR 0", "RECEIVE 0 4");
        x.spawn(0, 0);
        x.spawn(1, 0);
        x.run(2);
        for (int i = 0; i < 12; i++) {
            x.send(1, 0, i);
        }
        x.send(7, 0, 0);
        checks.due("a call to what is not alive: count(4)", x.count(4), 0);
        x.exit(0, 1);
        checks.due("a trapped signal and the message of a monitor: count(4)", x.count(4), 2);
        Programs.module(x, 2, "SET 1 7", "SEND 1 0", "SET 1 1", "SEND 1 0", "RECEIVE 0 4");
        x.spawn(2, 0);
        x.run(1);
        checks.due("SEND to what is not alive, and to a full one: count(4)", x.count(4), 4);
        x.exit(1, 9);
        checks.due("the end of one with 12 loses none: count(4)", x.count(4), 4);
    }

    private static void turnThatOnlyEnds(Checks checks) {
        MailProcesses x = new MailProcesses();
        Programs.module(x, 0, "RECEIVE 1 0");
        Programs.module(x, 1, "LINK 1", "MONITOR 1", "RECEIVE 128 4", "TELL 0");
        x.spawn(0, 50);
        x.spawn(1, 0);
        x.run(2);
        checks.due("count(0)", x.count(0), 4);
        checks.due("run(1)", x.run(1), 1);
        checks.due("the TIME is the end, and grows no more: count(0)", x.count(0), 51);
        checks.due("count(2)", x.count(2), 3);
        checks.states("0 has ended with 0", x, 3, 1);
        x.run(1);
        checks.told("its ending was told as any", x, 0);
    }

    /** Answers are held against the model elsewhere; here the calls only have to come back. */
    private static void anyArgumentsInAnyState(Checks checks) {
        MailProcesses x = new MailProcesses();
        for (int stage = 0; stage < 3; stage++) {
            for (int a : ODD) {
                for (int b : ODD) {
                    for (int c : ODD) {
                        x.code(a, b, c);
                        x.send(a, b, c);
                        x.message(a, b, c);
                    }
                    x.process(a, b);
                    x.register(a, b);
                    x.exit(a, b);
                    x.spawn(a, b);
                }
                x.load(a);
                x.run(a);
                x.state(a);
                x.ready(a);
                x.told(a);
                x.count(a);
            }
            x.wipe();
            Programs.draft(x, "SPAWN 0 1", "TRAP 0 1", "LINK 0", "SEND 0 1", "RECEIVE 255 0", "EXIT 0 1", "JUMP 23");
            x.load(stage);
            x.purge(stage);
        }
        checks.due("the draft works still: wipe()", x.wipe(), 0);
    }

    private static void longAfterTheLastPromisedCall(Checks checks) {
        MailProcesses x = new MailProcesses();
        Programs.module(x, 0, "SET 0 1000", "RECEIVE 0 0", "TELL 0", "JUMP 0");
        x.spawn(0, 0);
        int refused = 0;
        for (int i = 0; i < 10100; i++) {
            refused += x.run(100) == MailProcesses.NONE ? 1 : 0;
        }
        checks.due("run is refused above a TIME of 1000000000", refused > 0, true);
        checks.due("count(0) is above it", x.count(0) > 1000000000 && x.count(0) < 1000200000, true);
        checks.due("run(1)", x.run(1), -1);
    }
}
