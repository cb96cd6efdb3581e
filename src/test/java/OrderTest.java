import java.util.List;

/** Promise 17: order and limits, as far as no other test has them, and no call that fails in any state. */
public final class OrderTest {
    private static final int[] ODD = {Integer.MIN_VALUE, -2, -1, 0, 1, 3, 4, 7, 8, 9, 23, 24, 100, 101, 256, Integer.MAX_VALUE};

    public static void main(String[] args) {
        Checks checks = new Checks();
        refusedCallsChangeNothing(checks);
        refusedSendIsCounted(checks);
        sendCallToWhatIsNotAlive(checks);
        whatIsCountedAsLost(checks);
        signalsThatAreNoMessages(checks);
        endIsNoInstruction(checks);
        madeAndWokenInTheirOrder(checks);
        allOf512Calls(checks);
        anyArgumentsInAnyState(checks);
        checks.end();
    }

    private static void refusedCallsChangeNothing(Checks checks) {
        checks.says("Where nothing else is said, a call that is refused (by a code below 0 that is named, or by false) changes nothing");
        MailProcesses x = new MailProcesses();
        Programs.module(x, 0, "RECEIVE 1 4", "TELL 0");
        x.spawn(0, 3);
        x.spawn(0, 4);
        x.run(1);
        x.exit(1, 2);
        x.send(0, 4, 6);
        Programs.module(x, 0, "RECEIVE 2 4");
        Programs.draft(x, "TELL 0");
        x.spawn(0, 5);
        List<String> before = Snapshot.of(x);
        checks.due("code(18, 0, 0)", x.code(18, 0, 0), -1);
        checks.due("code(0, 4, 0)", x.code(0, 4, 0), -1);
        checks.due("load(0)", x.load(0), false);
        checks.due("load(4)", x.load(4), false);
        checks.due("purge(4)", x.purge(4), -1);
        checks.due("spawn(1, 1)", x.spawn(1, 1), -1);
        checks.due("spawn(4, 1)", x.spawn(4, 1), -1);
        checks.due("send(2, 0, 1)", x.send(2, 0, 1), false);
        checks.due("send(0, 6, 1)", x.send(0, 6, 1), false);
        checks.due("exit(2, 1)", x.exit(2, 1), false);
        checks.due("run(0)", x.run(0), -1);
        checks.due("run(101)", x.run(101), -1);
        checks.unchanged("all of these", x, before);
        checks.due("wipe()", x.wipe(), 1);
    }

    private static void refusedSendIsCounted(Checks checks) {
        checks.says("count(4): a message to a process that has 12 is counted");
        MailProcesses x = new MailProcesses();
        Programs.module(x, 0, "RECEIVE 0 4");
        x.spawn(0, 0);
        for (int i = 0; i < 12; i++) {
            x.send(0, 0, i);
        }
        checks.due("count(4)", x.count(4), 0);
        checks.due("send(0, 0, 12)", x.send(0, 0, 12), false);
        checks.due("count(4)", x.count(4), 1);
        checks.due("message(0, 11, 1)", x.message(0, 11, 1), 11);
    }

    private static void sendCallToWhatIsNotAlive(Checks checks) {
        checks.says("count(4): a call of send to what is not alive is not");
        MailProcesses x = new MailProcesses();
        Programs.module(x, 0, "TELL 0");
        x.spawn(0, 0);
        x.run(1);
        for (int p : new int[] {0, 1, 7, 8, -1}) {
            checks.due("send(" + p + ", 0, 0)", x.send(p, 0, 0), false);
        }
        checks.due("count(4)", x.count(4), 0);
    }

    private static void whatIsCountedAsLost(Checks checks) {
        checks.says("count(4): a message to a process that has 12 is counted, and a SEND (instruction 6) to what is not alive");
        MailProcesses x = new MailProcesses();
        Programs.module(x, 0, "RECEIVE 0 4");
        Programs.module(x, 1, "TRAP 0 1", "LINK 0", "MONITOR 0", "RECEIVE 0 4");
        x.spawn(0, 0);
        x.spawn(1, 0);
        x.run(2);
        for (int i = 0; i < 12; i++) {
            x.send(1, 0, i);
        }
        x.exit(0, 1);
        checks.due("a trapped signal and the message of a monitor: count(4)", x.count(4), 2);
        Programs.module(x, 2, "SET 1 7", "SEND 1 0", "SET 1 1", "SEND 1 0", "RECEIVE 0 4");
        x.spawn(2, 0);
        x.run(1);
        checks.due("SEND to what is not alive, and to a full one: count(4)", x.count(4), 4);
        x.exit(1, 9);
        checks.due("the end of one with 12 loses none: count(4)", x.count(4), 4);
    }

    private static void signalsThatAreNoMessages(Checks checks) {
        checks.says("count(4): a signal to who does not TRAP is no message, and is not counted");
        MailProcesses x = new MailProcesses();
        Programs.module(x, 0, "RECEIVE 0 4");
        x.spawn(0, 0);
        for (int i = 0; i < 12; i++) {
            x.send(0, 0, i);
        }
        x.exit(0, 0);
        checks.due("nothing for reason 0: count(4)", x.count(4), 0);
        x.exit(0, 4);
        checks.due("the end: count(4)", x.count(4), 0);
    }

    private static void endIsNoInstruction(Checks checks) {
        checks.says("Such an end is no instruction: the TIME does not grow by it");
        MailProcesses x = new MailProcesses();
        Programs.module(x, 0, "SET 1 1");
        Programs.module(x, 1, "RECEIVE 0 0");
        x.spawn(0, 0);
        x.run(1);
        checks.due("behind SET: count(0)", x.count(0), 1);
        x.spawn(1, 7);
        x.run(2);
        checks.due("behind a RECEIVE that was over: count(0)", x.count(0), 1 + 1 + 7);
        x.spawn(1, 0);
        x.run(2);
        checks.due("behind one that did not wait: count(0)", x.count(0), 9 + 1);
        checks.due("count(2)", x.count(2), 1 + 2 + 1);
        checks.due("count(5)", x.count(5), 3);
    }

    private static void madeAndWokenInTheirOrder(Checks checks) {
        checks.says("at the back of the queue: those whom one turn makes and wakes, in the order of its instructions");
        MailProcesses x = new MailProcesses();
        Programs.module(x, 0, "RECEIVE 129 4");
        Programs.module(x, 1, "SET 1 1", "SEND 1 0", "SPAWN 2 0", "SET 1 0", "SEND 1 0", "SPAWN 2 0", "RECEIVE 0 4");
        Programs.module(x, 2, "RECEIVE 0 4");
        x.spawn(0, 0);
        x.spawn(0, 0);
        x.spawn(1, 0);
        x.run(3);
        checks.queue("1 woken, 3 made, 0 woken, 4 made", x, 1, 3, 0, 4);
    }

    private static void allOf512Calls(Checks checks) {
        checks.says("An object is used for at most 512 calls after it has been made");
        MailProcesses x = new MailProcesses();
        // 2 calls of code, one each of load and spawn, 254 pairs of run and count.
        Programs.module(x, 0, "ADD 1 0", "JUMP 0");
        x.spawn(0, 1);
        for (int i = 1; i <= 254; i++) {
            checks.due("run(100)", x.run(100), 100);
            checks.due("count(0)", x.count(0), 800 * i);
        }
    }

    /** Answers are held against the model elsewhere; here, and far beyond 512 of them, the calls only have to come back. */
    private static void anyArgumentsInAnyState(Checks checks) {
        checks.says("LANGUAGE.md, 7: No call may ever throw or fail to end, for any arguments in any state");
        MailProcesses x = new MailProcesses();
        int[][] rows = {{8, 0, 1}, {15, 0, 1}, {10, 0, 0}, {6, 0, 1}, {12, 0, 0}, {7, 255, 0}, {13, 0, 1}, {11, 0, 0}, {4, 23, 0}};
        int called = 0;
        for (int stage = 0; stage < 4; stage++) {
            for (int a : ODD) {
                for (int b : ODD) {
                    for (int c : ODD) {
                        x.code(a, b, c);
                        x.send(a, b, c);
                        x.message(a, b, c);
                    }
                    x.process(a, b);
                    x.register(a, b);
                    x.exit(a, b);
                    x.spawn(a, b);
                }
                x.load(a);
                x.run(a);
                x.purge(a);
                x.state(a);
                x.ready(a);
                x.told(a);
                x.count(a);
                called++;
            }
            x.wipe();
            for (int[] row : rows) {
                x.code(row[0], row[1], row[2]);
            }
            x.load(stage);
        }
        checks.due("all came back", called, 4 * ODD.length);
    }
}
