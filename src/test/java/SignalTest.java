/** Promise 8, the instructions EXIT, LINK, UNLINK, MONITOR and TRAP, and what signals do. */
public final class SignalTest {
    public static void main(String[] args) {
        Checks checks = new Checks();
        wrongInputs(checks);
        exitWithoutTrap(checks);
        exitWithTrap(checks);
        exitNine(checks);
        exitInstruction(checks);
        exitItself(checks);
        trapOnAndOff(checks);
        linkToWhatIsNotAlive(checks);
        linkItselfAndTwice(checks);
        unlink(checks);
        monitorOfWhatIsNotAlive(checks);
        monitorItselfAndTwice(checks);
        signalToAFullMailbox(checks);
        checks.end();
    }

    private static void wrongInputs(Checks checks) {
        MailProcesses x = new MailProcesses();
        int p = Programs.waiter(x, 0, 1);
        for (int q : new int[] {-1, 1, 8, Integer.MIN_VALUE, Integer.MAX_VALUE}) {
            checks.due("exit(" + q + ", 1)", x.exit(q, 1), false);
        }
        checks.due("exit(0, 2)", x.exit(p, 2), true);
        checks.due("exit(0, 3) of an ENDED one", x.exit(p, 3), false);
        checks.due("process(0, 8)", x.process(p, 8), 2);
        checks.due("count(5)", x.count(5), 1);
    }

    private static void exitWithoutTrap(Checks checks) {
        for (int reason : new int[] {1, 8, -1, Integer.MAX_VALUE, Integer.MIN_VALUE}) {
            MailProcesses x = new MailProcesses();
            int p = Programs.waiter(x, 0, 1);
            checks.due("exit(0, 0)", x.exit(p, 0), true);
            checks.due("reason 0 does nothing: state(0)", x.state(p), 2);
            checks.due("process(0, 3)", x.process(p, 3), 0);
            checks.due("exit(0, " + reason + ")", x.exit(p, reason), true);
            checks.due("state(0)", x.state(p), 3);
            checks.due("process(0, 8)", x.process(p, 8), reason);
        }
    }

    private static void exitWithTrap(Checks checks) {
        MailProcesses x = new MailProcesses();
        Programs.module(x, 0, "RECEIVE 0 4");
        Programs.module(x, 1, "TRAP 0 1", "RECEIVE 64 4", "TELL 0", "TELL 1", "RECEIVE 0 4");
        x.spawn(0, 0);
        x.spawn(1, 0);
        x.run(2);
        for (int reason : new int[] {0, 1, -1, Integer.MAX_VALUE, 1 << 29}) {
            checks.due("exit(1, " + reason + ")", x.exit(1, reason), true);
        }
        checks.due("it waited for tag 6: state(1)", x.state(1), 1);
        checks.mail("p + 8 * reason wraps", x, 1, 6, 1, 6, 9, 6, -7, 6, -7, 6, 1);
        x.run(1);
        checks.told("taken", x, 1, 6);
    }

    private static void exitNine(Checks checks) {
        MailProcesses x = new MailProcesses();
        Programs.module(x, 0, "TRAP 0 1", "ZERO 0 3", "LINK 1", "RECEIVE 0 4");
        x.spawn(0, 0);
        x.spawn(0, 1);
        x.run(2);
        checks.due("exit(0, 9)", x.exit(0, 9), true);
        checks.due("a trap does not help: state(0)", x.state(0), 3);
        checks.due("process(0, 8)", x.process(0, 8), 8);
        checks.mail("the signal of that ending has reason 8", x, 1, 6, 64);
        Programs.module(x, 1, "RECEIVE 0 4");
        x.spawn(1, 0);
        x.exit(0, 9);
        checks.due("without a trap: process(0, 8)", x.process(0, 8), 8);
    }

    private static void exitInstruction(Checks checks) {
        MailProcesses x = new MailProcesses();
        Programs.module(x, 0, "RECEIVE 0 4");
        Programs.module(x, 1, "TRAP 0 1", "RECEIVE 0 4");
        // Register 0 is the reason; 0 and 1 are sent it, 7 and 8 are not alive.
        Programs.module(x, 2, "EXIT 1 0", "SET 1 1", "EXIT 1 0", "SET 1 7", "EXIT 1 0", "SET 1 8", "EXIT 1 0", "RECEIVE 0 4");
        x.spawn(0, 0);
        x.spawn(1, 0);
        x.run(2);
        x.spawn(2, 0);
        x.run(1);
        checks.states("reason 0", x, 2, 2, 2);
        checks.mail("reason 0", x, 1, 6, 2);
        x.spawn(2, 5);
        x.run(1);
        checks.states("reason 5", x, 3, 2, 2, 2);
        checks.due("process(0, 8)", x.process(0, 8), 5);
        checks.mail("reason 5", x, 1, 6, 2, 6, 3 + 40);
        checks.due("EXIT to what is not alive is no lost message: count(4)", x.count(4), 0);
        x.spawn(0, 0);
        x.spawn(2, 9);
        x.run(2);
        checks.states("reason 9", x, 3, 3, 2, 2, 2);
        checks.due("process(0, 8)", x.process(0, 8), 8);
        checks.due("process(1, 8)", x.process(1, 8), 8);
    }

    private static void exitItself(Checks checks) {
        MailProcesses x = new MailProcesses();
        Programs.module(x, 0, "SELF 1", "SET 2 0", "EXIT 1 2", "TELL 0", "SET 2 4", "EXIT 1 2", "TELL 0");
        x.spawn(0, 0);
        checks.due("run(9)", x.run(9), 1);
        checks.due("nothing for reason 0, the end for 4: count(1)", x.count(1), 1);
        checks.due("count(0)", x.count(0), 6);
        checks.due("process(0, 8)", x.process(0, 8), 4);
        Programs.module(x, 1, "TRAP 0 1", "SELF 1", "SET 2 9", "EXIT 1 2", "TELL 0");
        x.spawn(1, 0);
        x.run(9);
        checks.due("process(0, 8)", x.process(0, 8), 8);
        checks.due("count(1)", x.count(1), 1);
    }

    private static void trapOnAndOff(Checks checks) {
        MailProcesses x = new MailProcesses();
        Programs.module(x, 0, "TRAP 0 1", "RECEIVE 1 4", "TRAP 77 0", "RECEIVE 0 4");
        x.spawn(0, 0);
        checks.due("process(0, 6) at first", x.process(0, 6), 0);
        x.run(1);
        checks.due("process(0, 6)", x.process(0, 6), 1);
        x.exit(0, 1);
        checks.due("state(0)", x.state(0), 2);
        x.send(0, 0, 0);
        x.run(1);
        checks.due("process(0, 6)", x.process(0, 6), 0);
        x.exit(0, 1);
        checks.due("state(0)", x.state(0), 3);
    }

    private static void linkToWhatIsNotAlive(Checks checks) {
        for (int target : new int[] {1, 7, 8, -1, Integer.MIN_VALUE, Integer.MAX_VALUE}) {
            MailProcesses x = new MailProcesses();
            Programs.module(x, 0, "LINK 0", "TELL 0");
            x.spawn(0, target);
            x.run(1);
            checks.due("LINK " + target + ": process(0, 8)", x.process(0, 8), 7);
            checks.due("count(0)", x.count(0), 1);
            Programs.module(x, 1, "TRAP 0 1", "LINK 0", "RECEIVE 0 4");
            x.spawn(1, target);
            x.run(1);
            checks.mail("LINK " + target + " with a trap", x, 0, 6, 56);
            checks.due("process(0, 4)", x.process(0, 4), 0);
        }
    }

    private static void linkItselfAndTwice(Checks checks) {
        MailProcesses x = new MailProcesses();
        Programs.module(x, 0, "RECEIVE 0 4");
        Programs.module(x, 1, "SELF 2", "LINK 2", "LINK 0", "LINK 0", "RECEIVE 0 4");
        x.spawn(0, 0);
        x.spawn(1, 0);
        x.run(2);
        checks.due("process(0, 4)", x.process(0, 4), 2);
        checks.due("process(1, 4)", x.process(1, 4), 1);
        checks.due("process(1, 3)", x.process(1, 3), 0);
        x.exit(0, 4);
        checks.due("process(1, 8)", x.process(1, 8), 4);
        checks.due("count(5)", x.count(5), 2);
    }

    private static void unlink(Checks checks) {
        MailProcesses x = new MailProcesses();
        Programs.module(x, 0, "RECEIVE 0 4");
        Programs.module(x, 1, "LINK 0", "SET 1 1", "LINK 1", "RECEIVE 1 4", "MOVE 3 0", "SET 0 1", "UNLINK 3", "JUMP 3");
        x.spawn(0, 0);
        x.spawn(0, 0);
        x.spawn(1, 0);
        x.run(3);
        checks.due("process(2, 4)", x.process(2, 4), 3);
        // The int of the message is what it unlinks from; itself, or what is none, is no fault.
        for (int target : new int[] {2, 7, 8, -1, 33, 0}) {
            x.send(2, 0, target);
            x.run(1);
        }
        checks.due("process(2, 4)", x.process(2, 4), 2);
        checks.due("none was monitored for that: process(2, 3)", x.process(2, 3), 0);
        checks.due("process(0, 4)", x.process(0, 4), 0);
        checks.due("process(1, 4)", x.process(1, 4), 4);
        x.exit(0, 4);
        checks.states("unlinked", x, 3, 2, 2);
        x.exit(1, 4);
        checks.states("linked", x, 3, 3, 3);
    }

    private static void monitorOfWhatIsNotAlive(Checks checks) {
        MailProcesses x = new MailProcesses();
        Programs.module(x, 0, "RECEIVE 1 4", "MONITOR 0", "JUMP 0");
        x.spawn(0, 0);
        x.run(1);
        int[] targets = {7, 8, 77, -1, Integer.MIN_VALUE};
        for (int target : targets) {
            x.send(0, 0, target);
            x.run(1);
        }
        checks.mail("by the lowest three bits", x, 0, 7, 63, 7, 56, 7, 61, 7, 63, 7, 56);
        checks.due("process(0, 5)", x.process(0, 5), 0);
        checks.due("state(0)", x.state(0), 2);
    }

    private static void monitorItselfAndTwice(Checks checks) {
        MailProcesses x = new MailProcesses();
        Programs.module(x, 0, "RECEIVE 0 4");
        Programs.module(x, 1, "SELF 2", "MONITOR 2", "MONITOR 0", "MONITOR 0", "RECEIVE 128 4", "TELL 0", "TELL 1", "RECEIVE 0 4");
        x.spawn(0, 0);
        x.spawn(1, 0);
        x.run(2);
        checks.due("process(1, 5)", x.process(1, 5), 1);
        checks.due("a monitor goes one way: process(0, 5)", x.process(0, 5), 0);
        checks.due("process(1, 4)", x.process(1, 4), 0);
        x.exit(0, 2);
        checks.mail("one message", x, 1, 7, 16);
        checks.due("process(1, 5)", x.process(1, 5), 0);
        x.run(2);
        checks.told("taken", x, 16, 7);
    }

    private static void signalToAFullMailbox(Checks checks) {
        MailProcesses x = new MailProcesses();
        Programs.module(x, 0, "TRAP 0 1", "RECEIVE 1 4", "MONITOR 0", "RECEIVE 0 4");
        x.spawn(0, 0);
        x.run(1);
        for (int i = 0; i < 11; i++) {
            x.send(0, 1, i);
        }
        x.send(0, 0, 5);
        checks.due("exit(0, 3) is true though the message is lost", x.exit(0, 3), true);
        checks.due("count(4)", x.count(4), 1);
        x.send(0, 2, 1);
        checks.due("count(4)", x.count(4), 2);
        x.run(1);
        checks.due("its RECEIVE made room for the message of MONITOR", x.message(0, 11, 1), 61);
        checks.due("count(4)", x.count(4), 2);
        checks.due("state(0)", x.state(0), 2);
    }
}
