/** What an ending does, and the endings that come of it. */
public final class EndingTest {
    public static void main(String[] args) {
        Checks checks = new Checks();
        endWithReason(checks);
        everythingIsGone(checks);
        signalsThenMessages(checks);
        normalEndSpreadsNothing(checks);
        nineSpreadsAsNine(checks);
        endingsInTheirOrder(checks);
        theLeastAndTheGreatestNumber(checks);
        whoIsToEndGetsNothing(checks);
        whoIsToEndLosesNothing(checks);
        theRunningOneIsEnded(checks);
        intsWrap(checks);
        callWithoutModule(checks);
        checks.end();
    }

    private static void endWithReason(Checks checks) {
        for (int reason : new int[] {0, 3, 9, -1, Integer.MIN_VALUE}) {
            MailProcesses x = new MailProcesses();
            Programs.module(x, 0, "SET 3 5", "MOVE 2 0", "END 2", "TELL 0");
            x.spawn(0, reason);
            checks.due("run(9)", x.run(9), 1);
            checks.due("END " + reason + ": process(0, 8)", x.process(0, 8), reason);
            checks.due("count(0)", x.count(0), 3);
            checks.due("count(1)", x.count(1), 0);
            checks.due("count(5)", x.count(5), 1);
            checks.due("register(0, 3) as it was", x.register(0, 3), 5);
        }
    }

    private static void everythingIsGone(Checks checks) {
        MailProcesses x = new MailProcesses();
        Programs.module(x, 0, "TRAP 0 1", "RECEIVE 0 4");
        Programs.module(x, 1, "LINK 0", "MONITOR 0", "RECEIVE 0 4");
        Programs.module(x, 2, "TRAP 0 1", "SET 0 1", "LINK 0", "MONITOR 0", "RECEIVE 0 4");
        x.spawn(0, 0);
        x.spawn(1, 0);
        x.spawn(2, 0);
        x.run(3);
        x.send(1, 0, 4);
        x.exit(1, 3);
        checks.states("ended", x, 2, 3, 2);
        checks.due("message(1, 0, 0)", x.message(1, 0, 0), 10000000000L);
        for (int what = 0; what < 8; what++) {
            checks.due("process(1, " + what + ")", x.process(1, what), -1);
        }
        checks.due("process(0, 4)", x.process(0, 4), 0);
        checks.due("process(2, 4)", x.process(2, 4), 0);
        checks.due("process(2, 5)", x.process(2, 5), 0);
        checks.mail("linked", x, 0, 6, 25);
        checks.mail("linked and monitoring: the signal first", x, 2, 6, 25, 7, 25);
        checks.due("spawn(0, 0)", x.spawn(0, 0), 1);
        checks.due("a new one with its number is not linked: process(1, 4)", x.process(1, 4), 0);
        checks.due("nor does it monitor: process(1, 5)", x.process(1, 5), 0);
        x.exit(0, 9);
        checks.due("the monitor on 0 is no more: process(1, 3)", x.process(1, 3), 0);
        x.exit(1, 9);
        checks.due("nor is it monitored: process(2, 3)", x.process(2, 3), 2);
    }

    private static void signalsThenMessages(Checks checks) {
        MailProcesses x = new MailProcesses();
        // 1 monitors 0, 2 is linked with it, 3 monitors it, 4 is linked with it; all wait for what comes.
        Programs.module(x, 0, "RECEIVE 1 4");
        Programs.module(x, 1, "MONITOR 0", "RECEIVE 128 4");
        Programs.module(x, 2, "TRAP 0 1", "LINK 0", "RECEIVE 64 4");
        x.spawn(0, 0);
        x.spawn(1, 0);
        x.spawn(2, 0);
        x.spawn(1, 0);
        x.spawn(2, 0);
        x.run(5);
        checks.queue("all wait", x);
        x.exit(0, 1);
        checks.queue("signals by numbers, then messages by numbers", x, 2, 4, 1, 3);
        checks.mail("1", x, 1, 7, 8);
        checks.mail("2", x, 2, 6, 8);
    }

    private static void normalEndSpreadsNothing(Checks checks) {
        MailProcesses x = new MailProcesses();
        Programs.module(x, 0, "RECEIVE 1 4");
        Programs.module(x, 1, "LINK 0", "RECEIVE 0 4");
        Programs.module(x, 2, "TRAP 0 1", "LINK 0", "MONITOR 0", "RECEIVE 0 4");
        x.spawn(0, 0);
        x.spawn(1, 0);
        x.spawn(2, 0);
        x.run(3);
        x.send(0, 0, 0);
        x.run(1);
        checks.states("reason 0", x, 3, 2, 2);
        checks.due("process(0, 8)", x.process(0, 8), 0);
        checks.due("process(1, 3)", x.process(1, 3), 0);
        checks.due("process(1, 4)", x.process(1, 4), 0);
        checks.mail("who traps, and monitors, is told", x, 2, 6, 0, 7, 0);
    }

    private static void nineSpreadsAsNine(Checks checks) {
        MailProcesses x = new MailProcesses();
        Programs.module(x, 0, "RECEIVE 1 4", "SET 0 9", "END 0");
        Programs.module(x, 1, "LINK 0", "RECEIVE 0 4");
        Programs.module(x, 2, "TRAP 0 1", "LINK 0", "RECEIVE 0 4");
        x.spawn(0, 0);
        x.spawn(1, 0);
        x.spawn(2, 0);
        x.run(3);
        x.send(0, 0, 0);
        x.run(1);
        checks.states("only EXIT kills with 9", x, 3, 3, 2);
        checks.due("process(0, 8)", x.process(0, 8), 9);
        checks.due("process(1, 8)", x.process(1, 8), 9);
        checks.mail("2", x, 2, 6, 72);
    }

    /** 0 has links to 1 and 4, 1 to 2, 4 to 3: the order is 0, 1, 4, 2, 3, as the watcher 5 is told. */
    private static void endingsInTheirOrder(Checks checks) {
        MailProcesses x = new MailProcesses();
        Programs.module(x, 0, "RECEIVE 1 4", "LINK 0", "JUMP 0");
        Programs.module(x, 1, "RECEIVE 1 4", "MONITOR 0", "JUMP 0");
        for (int p = 0; p < 5; p++) {
            x.spawn(0, 0);
        }
        x.spawn(1, 0);
        x.run(6);
        int[][] pairs = {{0, 1}, {0, 4}, {1, 2}, {4, 3}, {5, 0}, {5, 1}, {5, 2}, {5, 3}, {5, 4}};
        for (int[] pair : pairs) {
            x.send(pair[0], 0, pair[1]);
            x.run(1);
        }
        checks.due("process(5, 5)", x.process(5, 5), 31);
        x.exit(0, 6);
        checks.states("all but the watcher", x, 3, 3, 3, 3, 3, 2);
        checks.mail("the order", x, 5, 7, 48, 7, 49, 7, 52, 7, 50, 7, 51);
        checks.due("count(5)", x.count(5), 5);
    }

    private static void theLeastAndTheGreatestNumber(Checks checks) {
        MailProcesses x = new MailProcesses();
        Programs.module(x, 0, "RECEIVE 1 4", "MONITOR 0", "LINK 0", "TRAP 0 1", "RECEIVE 0 4");
        for (int p = 0; p < 8; p++) {
            x.spawn(0, 0);
        }
        x.run(8);
        x.send(0, 0, 3);
        x.send(7, 0, 3);
        x.run(2);
        checks.due("process(3, 4)", x.process(3, 4), 129);
        x.exit(3, 2);
        checks.mail("0", x, 0, 6, 19, 7, 19);
        checks.mail("7", x, 7, 6, 19, 7, 19);
    }

    /** 0 is linked with 1 and 2, 1 with 2: 2 is to end with 6 by 0, and 1's ending adds nothing. */
    private static void whoIsToEndGetsNothing(Checks checks) {
        MailProcesses x = new MailProcesses();
        Programs.module(x, 0, "RECEIVE 1 4", "LINK 0", "JUMP 0");
        for (int p = 0; p < 3; p++) {
            x.spawn(0, 0);
        }
        x.run(3);
        int[][] pairs = {{0, 1}, {0, 2}, {1, 2}};
        for (int[] pair : pairs) {
            x.send(pair[0], 0, pair[1]);
            x.run(1);
        }
        x.exit(0, 6);
        checks.states("a triangle", x, 3, 3, 3);
        checks.due("each ends once: count(5)", x.count(5), 3);
        checks.due("process(2, 8)", x.process(2, 8), 6);
    }

    /** 1 monitors 0, is linked with it, and has a full mailbox: it is to end, so its message is not lost but none. */
    private static void whoIsToEndLosesNothing(Checks checks) {
        MailProcesses x = new MailProcesses();
        Programs.module(x, 0, "RECEIVE 0 4");
        Programs.module(x, 1, "LINK 0", "MONITOR 0", "RECEIVE 128 4");
        x.spawn(0, 0);
        x.spawn(1, 0);
        x.run(2);
        for (int i = 0; i < 12; i++) {
            x.send(1, 1, i);
        }
        x.exit(0, 5);
        checks.states("both", x, 3, 3);
        checks.due("count(4)", x.count(4), 0);
        checks.queue("nobody was woken", x);
    }

    private static void theRunningOneIsEnded(Checks checks) {
        MailProcesses x = new MailProcesses();
        Programs.module(x, 0, "RECEIVE 0 4");
        Programs.module(x, 1, "LINK 1", "EXIT 1 0", "TELL 0");
        x.spawn(0, 0);
        x.spawn(1, 4);
        checks.due("run(9)", x.run(9), 2);
        checks.states("by its own signal, over the link", x, 3, 3);
        checks.due("process(1, 8)", x.process(1, 8), 4);
        checks.due("count(1)", x.count(1), 0);
        checks.due("count(0)", x.count(0), 1 + 2);
        checks.queue("nobody", x);
        // As the last instruction: the ending that came over the link is the one that counts.
        Programs.module(x, 2, "LINK 1", "EXIT 1 0");
        x.spawn(0, 0);
        x.spawn(2, 4);
        x.run(9);
        checks.due("process(1, 8)", x.process(1, 8), 4);
        checks.due("count(5)", x.count(5), 4);
    }

    private static void intsWrap(Checks checks) {
        MailProcesses x = new MailProcesses();
        Programs.module(x, 0, "RECEIVE 0 4");
        Programs.module(x, 1, "TRAP 0 1", "SET 0 3", "LINK 0", "MONITOR 0", "RECEIVE 0 4");
        for (int p = 0; p < 4; p++) {
            x.spawn(0, 0);
        }
        x.spawn(1, 0);
        x.run(5);
        x.exit(3, Integer.MAX_VALUE);
        checks.mail("number + 8 * reason", x, 4, 6, -5, 7, -5);
    }

    private static void callWithoutModule(Checks checks) {
        MailProcesses x = new MailProcesses();
        Programs.module(x, 0, "CALL 3", "TELL 0");
        x.spawn(0, 0);
        x.run(1);
        checks.due("process(0, 8)", x.process(0, 8), 6);
        checks.due("count(0)", x.count(0), 1);
        checks.due("count(1)", x.count(1), 0);
    }
}
