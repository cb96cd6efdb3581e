import java.util.List;

/** Promise 8, the instructions EXIT, LINK, UNLINK, MONITOR and TRAP, and what signals do. */
public final class SignalTest {
    private static final int LEAST = Integer.MIN_VALUE;
    private static final int MOST = Integer.MAX_VALUE;

    public static void main(String[] args) {
        Checks checks = new Checks();
        exitOfAnAliveOne(checks);
        exitOfWhatIsNotAlive(checks);
        exitIsByTheProcessItself(checks);
        reasonZero(checks);
        anotherReason(checks);
        trapped(checks);
        trappedToAFullMailbox(checks);
        nineInAnyCase(checks);
        onlyNine(checks);
        exitInstruction(checks);
        exitInstructionNine(checks);
        exitToWhatIsNotAlive(checks);
        exitToItself(checks);
        linkBothWays(checks);
        linkToWhatIsNotAlive(checks);
        linkToWhatIsNotAliveTrapped(checks);
        linkToItself(checks);
        oneMoreLink(checks);
        unlink(checks);
        unlinkWithoutALink(checks);
        monitorOneWay(checks);
        monitorOfWhatIsNotAlive(checks);
        monitorOfSuchToAFullMailbox(checks);
        monitorOfItself(checks);
        oneMoreMonitor(checks);
        checks.end();
    }

    /** 0 is WAITING for tag 0 and does not trap. */
    private static MailProcesses plain() {
        MailProcesses x = new MailProcesses();
        Programs.module(x, 0, "RECEIVE 1 4", "JUMP 0");
        x.spawn(0, 0);
        x.run(1);
        return x;
    }

    /** As plain, but 0 traps. */
    private static MailProcesses trapping() {
        MailProcesses x = new MailProcesses();
        Programs.module(x, 0, "TRAP 0 1", "RECEIVE 1 4", "JUMP 1");
        x.spawn(0, 0);
        x.run(1);
        return x;
    }

    private static void exitOfAnAliveOne(Checks checks) {
        checks.says("exit: As EXIT by the process itself: true");
        MailProcesses x = plain();
        checks.due("WAITING: exit(0, 2)", x.exit(0, 2), true);
        checks.due("process(0, 8)", x.process(0, 8), 2);
        x.spawn(0, 0);
        checks.due("READY: exit(0, 3)", x.exit(0, 3), true);
        checks.due("process(0, 8)", x.process(0, 8), 3);
        checks.queue("gone", x);
        checks.due("count(5)", x.count(5), 2);
        checks.due("no instruction: count(0)", x.count(0), 1);
    }

    private static void exitOfWhatIsNotAlive(Checks checks) {
        checks.says("exit: false if it is not alive");
        MailProcesses x = plain();
        x.spawn(0, 0);
        x.exit(1, 2);
        List<String> before = Snapshot.of(x);
        for (int p : new int[] {-1, 1, 2, 7, 8, LEAST, MOST}) {
            for (int reason : new int[] {0, 3, 9}) {
                checks.due("exit(" + p + ", " + reason + ")", x.exit(p, reason), false);
            }
        }
        checks.unchanged("exit", x, before);
    }

    private static void exitIsByTheProcessItself(Checks checks) {
        checks.says("exit: As EXIT by the process itself: p is its own number");
        MailProcesses x = new MailProcesses();
        Programs.module(x, 0, "TRAP 0 1", "RECEIVE 0 4");
        for (int p = 0; p < 8; p++) {
            x.spawn(0, 0);
        }
        x.run(8);
        for (int p = 0; p < 8; p++) {
            checks.due("exit(" + p + ", 2)", x.exit(p, 2), true);
            checks.mail("" + p, x, p, 6, p + 16);
        }
    }

    private static void reasonZero(Checks checks) {
        checks.says("A SIGNAL: if q does not TRAP nothing for reason 0");
        MailProcesses x = plain();
        List<String> before = Snapshot.of(x);
        checks.due("exit(0, 0)", x.exit(0, 0), true);
        checks.unchanged("exit(0, 0)", x, before);
    }

    private static void anotherReason(Checks checks) {
        checks.says("A SIGNAL: for another one q ENDS with it");
        for (int reason : new int[] {1, 7, 8, 10, -1, LEAST, MOST}) {
            MailProcesses x = plain();
            x.exit(0, reason);
            checks.due("state(0)", x.state(0), 3);
            checks.due("exit(0, " + reason + "): process(0, 8)", x.process(0, 8), reason);
        }
    }

    private static void trapped(Checks checks) {
        checks.says("A SIGNAL: if q TRAPS, a message with tag 6 and the int p + 8 * reason");
        MailProcesses x = new MailProcesses();
        Programs.module(x, 0, "RECEIVE 0 4");
        Programs.module(x, 1, "TRAP 0 1", "RECEIVE 64 4", "TELL 0", "TELL 1", "RECEIVE 0 4");
        x.spawn(0, 0);
        x.spawn(1, 0);
        x.run(2);
        checks.due("state(1)", x.state(1), 2);
        for (int reason : new int[] {0, 1, 8, -1}) {
            checks.due("exit(1, " + reason + ")", x.exit(1, reason), true);
        }
        checks.due("it waited for tag 6: state(1)", x.state(1), 1);
        checks.mail("for reason 0 too", x, 1, 6, 1, 6, 9, 6, 65, 6, -7);
        x.run(1);
        checks.told("taken", x, 1, 6);
    }

    private static void trappedToAFullMailbox(Checks checks) {
        checks.says("count(4): a message to a process that has 12 is counted, also that of a signal");
        MailProcesses x = trapping();
        for (int i = 0; i < 11; i++) {
            x.send(0, 1, i);
        }
        checks.due("the twelfth: exit(0, 3)", x.exit(0, 3), true);
        checks.due("message(0, 11, 1)", x.message(0, 11, 1), 24);
        checks.due("count(4)", x.count(4), 0);
        checks.due("true though the message is lost: exit(0, 4)", x.exit(0, 4), true);
        checks.due("count(4)", x.count(4), 1);
        checks.due("process(0, 3)", x.process(0, 3), 12);
        checks.due("state(0)", x.state(0), 2);
    }

    private static void nineInAnyCase(Checks checks) {
        checks.says("But EXIT with reason 9 ENDS q with reason 8 in any case");
        MailProcesses x = trapping();
        checks.due("exit(0, 9), with a trap", x.exit(0, 9), true);
        checks.due("state(0)", x.state(0), 3);
        checks.due("process(0, 8)", x.process(0, 8), 8);
        MailProcesses y = plain();
        checks.due("exit(0, 9), without", y.exit(0, 9), true);
        checks.due("process(0, 8)", y.process(0, 8), 8);
        MailProcesses z = trapping();
        for (int i = 0; i < 12; i++) {
            z.send(0, 1, i);
        }
        z.exit(0, 9);
        checks.due("with a full mailbox: process(0, 8)", z.process(0, 8), 8);
        checks.due("no message: count(4)", z.count(4), 0);
    }

    private static void onlyNine(Checks checks) {
        checks.says("EXIT with reason 9, and no other one, passes over a trap");
        for (int reason : new int[] {8, 10, -9, 9 + 256}) {
            MailProcesses x = trapping();
            x.exit(0, reason);
            checks.due("exit(0, " + reason + "): state(0)", x.state(0), 2);
            checks.mail("exit(0, " + reason + ")", x, 0, 6, 8 * reason);
        }
    }

    /** 0 does not trap, 1 does; register 0 of 2 is the reason that it sends to both. */
    private static MailProcesses exiter(int reason) {
        MailProcesses x = new MailProcesses();
        Programs.module(x, 0, "RECEIVE 0 4");
        Programs.module(x, 1, "TRAP 0 1", "RECEIVE 0 4");
        Programs.module(x, 2, "EXIT 1 0", "SET 1 1", "EXIT 1 0", "TELL 0", "RECEIVE 0 4");
        x.spawn(0, 0);
        x.spawn(1, 0);
        x.spawn(2, reason);
        x.run(3);
        return x;
    }

    private static void exitInstruction(Checks checks) {
        checks.says("13 EXIT: a signal of reason Rb to Ra");
        MailProcesses x = exiter(0);
        checks.states("reason 0", x, 2, 2, 2);
        checks.mail("reason 0", x, 1, 6, 2);
        MailProcesses y = exiter(5);
        checks.states("reason 5", y, 3, 2, 2);
        checks.due("process(0, 8)", y.process(0, 8), 5);
        checks.mail("reason 5", y, 1, 6, 42);
        checks.told("the sender goes on", y, 5);
        checks.due("count(0)", y.count(0), 1 + 2 + 5);
    }

    private static void exitInstructionNine(Checks checks) {
        checks.says("EXIT with reason 9 ENDS q with reason 8, also as an instruction");
        MailProcesses x = exiter(9);
        checks.states("reason 9", x, 3, 3, 2);
        checks.due("process(0, 8)", x.process(0, 8), 8);
        checks.due("process(1, 8)", x.process(1, 8), 8);
        checks.told("the sender goes on", x, 9);
    }

    private static void exitToWhatIsNotAlive(Checks checks) {
        checks.says("EXIT to what is not alive: nothing");
        MailProcesses x = new MailProcesses();
        Programs.module(x, 0, "TRAP 0 1", "RECEIVE 1 4", "SET 2 9", "EXIT 0 2", "SET 2 4", "EXIT 0 2", "JUMP 1");
        Programs.module(x, 1, "END 0");
        x.spawn(0, 0);
        x.spawn(1, 6);
        x.run(2);
        for (int target : new int[] {1, 2, 7, 8, -1, 32, LEAST, MOST}) {
            x.send(0, 0, target);
            x.run(1);
        }
        checks.states("all as before", x, 2, 3, 0);
        checks.due("process(1, 8)", x.process(1, 8), 6);
        checks.mail("no message", x, 0);
        checks.due("none is lost: count(4)", x.count(4), 0);
        checks.due("count(5)", x.count(5), 1);
        checks.due("each was an instruction: count(0)", x.count(0), 2 + 1 + 8 * 7);
    }

    private static void exitToItself(Checks checks) {
        checks.says("13 EXIT: a signal to Ra, also to itself");
        MailProcesses x = new MailProcesses();
        Programs.module(x, 0, "SELF 1", "EXIT 1 2", "TELL 0", "SET 2 4", "EXIT 1 2", "TELL 0");
        x.spawn(0, 0);
        checks.due("run(9)", x.run(9), 1);
        checks.due("nothing for reason 0, the end for 4: count(1)", x.count(1), 1);
        checks.due("count(0)", x.count(0), 5);
        checks.due("process(0, 8)", x.process(0, 8), 4);
        Programs.module(x, 1, "TRAP 0 1", "SELF 1", "SET 2 4", "EXIT 1 2", "RECEIVE 64 4", "TELL 0", "SET 2 9", "EXIT 1 2", "SELF 1", "EXIT 1 2", "TELL 0");
        x.spawn(1, 0);
        x.run(9);
        checks.due("trapped: told(0)", x.told(0), 32);
        checks.due("9 is not: process(0, 8)", x.process(0, 8), 8);
        checks.due("count(1)", x.count(1), 2);
    }

    /** 0 and 1 wait; 2 does what the rows say, with its register 1 being 1. */
    private static MailProcesses third(String... rows) {
        MailProcesses x = new MailProcesses();
        Programs.module(x, 0, "RECEIVE 0 4");
        Programs.draft(x, "SET 1 1");
        Programs.module(x, 1, rows);
        x.spawn(0, 0);
        x.spawn(0, 0);
        x.spawn(1, 0);
        x.run(3);
        return x;
    }

    private static void linkBothWays(Checks checks) {
        checks.says("10 LINK to Ra: LINKS to others (always both ways)");
        MailProcesses x = third("LINK 1", "RECEIVE 0 4");
        checks.due("process(2, 4)", x.process(2, 4), 2);
        checks.due("process(1, 4)", x.process(1, 4), 4);
        checks.due("process(0, 4)", x.process(0, 4), 0);
        checks.due("no message: process(1, 3)", x.process(1, 3), 0);
        x.exit(2, 3);
        checks.states("from who linked", x, 2, 3, 3);
        MailProcesses y = third("LINK 1", "RECEIVE 0 4");
        y.exit(1, 3);
        checks.states("to who linked", y, 2, 3, 3);
        MailProcesses z = third("LINK 0", "LINK 1", "RECEIVE 0 4");
        checks.due("both: process(2, 4)", z.process(2, 4), 3);
        checks.due("they are not linked with each other: process(0, 4)", z.process(0, 4), 4);
    }

    private static void linkToWhatIsNotAlive(Checks checks) {
        checks.says("LINK to what is not alive: a signal of reason 7 from the process to itself");
        for (int target : new int[] {0, 2, 7, 8, -1, 33, LEAST, MOST}) {
            MailProcesses x = new MailProcesses();
            Programs.module(x, 0, "LINK 0", "TELL 0");
            x.spawn(0, 1);
            x.spawn(0, target);
            x.exit(0, 1);
            x.run(1);
            checks.due("LINK " + target + ": process(1, 8)", x.process(1, 8), 7);
            checks.due("count(0)", x.count(0), 1);
            checks.due("count(1)", x.count(1), 0);
        }
    }

    private static void linkToWhatIsNotAliveTrapped(Checks checks) {
        checks.says("LINK to what is not alive: the signal is a message with tag 6 and the int p + 56 for who TRAPS");
        for (int target : new int[] {0, 2, 7, 8, -1, 33, LEAST, MOST}) {
            MailProcesses x = new MailProcesses();
            Programs.module(x, 0, "TRAP 0 1", "LINK 0", "TELL 0", "RECEIVE 0 4");
            x.spawn(0, 1);
            x.spawn(0, target);
            x.exit(0, 1);
            x.run(1);
            checks.mail("LINK " + target, x, 1, 6, 57);
            checks.due("process(1, 4)", x.process(1, 4), 0);
            checks.told("it goes on", x, target);
        }
    }

    private static void linkToItself(Checks checks) {
        checks.says("(LINK to itself: nothing)");
        MailProcesses x = third("TRAP 0 1", "SELF 2", "LINK 2", "RECEIVE 0 4");
        checks.due("state(2)", x.state(2), 2);
        checks.due("process(2, 4)", x.process(2, 4), 0);
        checks.mail("no message", x, 2);
        x.exit(2, 9);
        checks.due("it ends once: count(5)", x.count(5), 1);
    }

    private static void oneMoreLink(Checks checks) {
        checks.says("(LINK, one more: nothing)");
        MailProcesses x = third("TRAP 0 1", "LINK 1", "LINK 1", "RECEIVE 0 4");
        checks.due("process(2, 4)", x.process(2, 4), 2);
        checks.mail("no message", x, 2);
        x.exit(1, 3);
        checks.mail("one signal", x, 2, 6, 25);
        MailProcesses y = third("LINK 1", "LINK 1", "UNLINK 1", "RECEIVE 0 4");
        checks.due("one UNLINK undoes both: process(2, 4)", y.process(2, 4), 0);
        checks.due("process(1, 4)", y.process(1, 4), 0);
    }

    private static void unlink(Checks checks) {
        checks.says("11 UNLINK from Ra");
        MailProcesses x = third("LINK 0", "LINK 1", "UNLINK 0", "RECEIVE 0 4");
        checks.due("process(2, 4)", x.process(2, 4), 2);
        checks.due("both ways: process(0, 4)", x.process(0, 4), 0);
        checks.due("process(1, 4)", x.process(1, 4), 4);
        x.exit(0, 4);
        checks.states("unlinked", x, 3, 2, 2);
        x.exit(1, 4);
        checks.states("linked still", x, 3, 3, 3);
    }

    private static void unlinkWithoutALink(Checks checks) {
        checks.says("11 UNLINK (also if there was no link)");
        MailProcesses x = third("TRAP 0 1", "LINK 1", "RECEIVE 1 4", "UNLINK 0", "JUMP 3");
        for (int target : new int[] {0, 2, 3, 7, 8, -1, 32, 33, LEAST, MOST}) {
            x.send(2, 0, target);
            x.run(1);
            checks.due("UNLINK from " + target + ": state(2)", x.state(2), 2);
        }
        checks.due("process(2, 4)", x.process(2, 4), 2);
        checks.due("process(1, 4)", x.process(1, 4), 4);
        checks.mail("no message", x, 2);
        checks.due("count(4)", x.count(4), 0);
        checks.due("count(5)", x.count(5), 0);
    }

    private static void monitorOneWay(Checks checks) {
        checks.says("12 MONITOR Ra: MONITORS on others");
        MailProcesses x = third("MONITOR 1", "RECEIVE 128 4", "TELL 0", "TELL 1", "RECEIVE 0 4");
        checks.due("process(2, 5)", x.process(2, 5), 2);
        checks.due("one way: process(1, 5)", x.process(1, 5), 0);
        checks.due("no link: process(2, 4)", x.process(2, 4), 0);
        checks.due("process(1, 4)", x.process(1, 4), 0);
        x.exit(1, 2);
        checks.states("it is told, and does not end", x, 2, 3, 1);
        checks.due("the monitor is no more: process(2, 5)", x.process(2, 5), 0);
        x.run(1);
        checks.told("taken", x, 17, 7);
        MailProcesses y = third("MONITOR 1", "RECEIVE 0 4");
        y.exit(2, 2);
        checks.due("who is monitored hears nothing: process(1, 3)", y.process(1, 3), 0);
    }

    private static void monitorOfWhatIsNotAlive(Checks checks) {
        checks.says("MONITOR of such: a message to itself with tag 7 and the int 56 + (Ra modulo 8, by its lowest three bits)");
        MailProcesses x = new MailProcesses();
        Programs.module(x, 0, "RECEIVE 1 4", "MONITOR 0", "JUMP 0");
        x.spawn(0, 0);
        x.spawn(0, 0);
        x.run(2);
        x.exit(1, 3);
        int[] targets = {1, 2, 7, 8, 77, -1, -8, -9, LEAST, MOST};
        int[] ints = {57, 58, 63, 56, 61, 63, 56, 63, 56, 63};
        for (int i = 0; i < targets.length; i++) {
            x.send(0, 0, targets[i]);
            x.run(1);
            checks.due("MONITOR " + targets[i] + ": message(0, " + i + ", 0)", x.message(0, i, 0), 7);
            checks.due("MONITOR " + targets[i] + ": message(0, " + i + ", 1)", x.message(0, i, 1), ints[i]);
        }
        checks.due("process(0, 5)", x.process(0, 5), 0);
        checks.due("state(0)", x.state(0), 2);
    }

    private static void monitorOfSuchToAFullMailbox(Checks checks) {
        checks.says("count(4): a message to a process that has 12 is counted, also that of MONITOR to itself");
        MailProcesses x = new MailProcesses();
        Programs.module(x, 0, "SET 1 7", "MONITOR 1", "MONITOR 1", "RECEIVE 0 4");
        x.spawn(0, 0);
        for (int i = 0; i < 11; i++) {
            x.send(0, 1, i);
        }
        x.run(1);
        checks.due("message(0, 11, 1)", x.message(0, 11, 1), 63);
        checks.due("count(4)", x.count(4), 1);
        checks.due("state(0)", x.state(0), 2);
    }

    private static void monitorOfItself(Checks checks) {
        checks.says("(MONITOR of itself: nothing)");
        MailProcesses x = third("SELF 2", "MONITOR 2", "RECEIVE 0 4");
        checks.due("process(2, 5)", x.process(2, 5), 0);
        checks.mail("no message", x, 2);
        checks.due("state(2)", x.state(2), 2);
    }

    private static void oneMoreMonitor(Checks checks) {
        checks.says("(MONITOR, one more: nothing)");
        MailProcesses x = third("MONITOR 1", "MONITOR 1", "RECEIVE 0 4");
        checks.due("process(2, 5)", x.process(2, 5), 2);
        checks.mail("no message", x, 2);
        x.exit(1, 2);
        checks.mail("one message", x, 2, 7, 17);
    }
}
