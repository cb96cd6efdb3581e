/** What an ending does, and the endings that come of it. */
public final class EndingTest {
    public static void main(String[] args) {
        Checks checks = new Checks();
        theProcessIsEnded(checks);
        mailboxIsEmpty(checks);
        noQueue(checks);
        waitIsOver(checks);
        linksAreNoMore(checks);
        monitorsAreNoMore(checks);
        signalsGoByNumbers(checks);
        messagesGoByNumbers(checks);
        signalsBeforeMessages(checks);
        leastAndGreatestNumber(checks);
        reasonZero(checks);
        reasonNine(checks);
        intsWrap(checks);
        lostMessagesOfAnEnding(checks);
        inTheOrderInWhichTheyCame(checks);
        behindIt(checks);
        noMoreSignals(checks);
        noMoreMessages(checks);
        trapStopsIt(checks);
        theRunningOne(checks);
        theRunningOneAtItsLastInstruction(checks);
        allEight(checks);
        checks.end();
    }

    /** count processes wait; a message with tag 0 makes one link itself, with tag 1 monitor, with tag 2 trap. */
    private static MailProcesses net(int count) {
        MailProcesses x = new MailProcesses();
        Programs.module(x, 0,
            "RECEIVE 7 4", "SET 2 1", "SUB 1 2", "ZERO 1 7", "ADD 1 2", "ZERO 1 9", "JUMP 11",
            "MONITOR 0", "JUMP 0", "LINK 0", "JUMP 0", "TRAP 0 1", "JUMP 0");
        for (int p = 0; p < count; p++) {
            x.spawn(0, 0);
        }
        x.run(count);
        return x;
    }

    private static void order(MailProcesses x, int p, int tag, int target) {
        x.send(p, tag, target);
        x.run(2);
    }

    private static void link(MailProcesses x, int p, int q) {
        order(x, p, 0, q);
    }

    private static void monitor(MailProcesses x, int p, int q) {
        order(x, p, 1, q);
    }

    private static void trap(MailProcesses x, int... ps) {
        for (int p : ps) {
            order(x, p, 2, 0);
        }
    }

    private static void theProcessIsEnded(Checks checks) {
        checks.says("ENDING with a reason: the process is ENDED");
        MailProcesses x = net(3);
        x.exit(1, 5);
        checks.states("1", x, 2, 3, 2);
        checks.whats("1", x, 1, -1, -1, -1, -1, -1, -1, -1, -1, 5);
        checks.due("count(5)", x.count(5), 1);
    }

    private static void mailboxIsEmpty(Checks checks) {
        checks.says("ENDING: its mailbox is empty");
        MailProcesses x = net(1);
        x.send(0, 4, 6);
        x.send(0, 5, 7);
        x.exit(0, 5);
        checks.mail("ENDED", x, 0);
        x.spawn(0, 0);
        checks.mail("a new one with its number", x, 0);
        checks.due("process(0, 3)", x.process(0, 3), 0);
        checks.due("no message is lost by that: count(4)", x.count(4), 0);
    }

    private static void noQueue(Checks checks) {
        checks.says("ENDING: it stands in no queue");
        for (int ended = 0; ended < 3; ended++) {
            MailProcesses x = new MailProcesses();
            Programs.module(x, 0, "SELF 1", "TELL 1");
            for (int p = 0; p < 3; p++) {
                x.spawn(0, 0);
            }
            x.exit(ended, 1);
            checks.queue(ended + " ended", x, ended == 0 ? 1 : 0, ended == 2 ? 1 : 2);
            checks.due("run(9)", x.run(9), 2);
            checks.due("count(1)", x.count(1), 2);
        }
    }

    private static void waitIsOver(Checks checks) {
        checks.says("ENDING: who waited with a limit is ENDED, and is not woken");
        MailProcesses x = new MailProcesses();
        Programs.module(x, 0, "RECEIVE 0 0", "TELL 0");
        x.spawn(0, 50);
        x.spawn(0, 90);
        x.run(2);
        x.exit(0, 1);
        checks.due("run(9)", x.run(9), 1);
        checks.told("only the other one", x, 90);
        checks.due("the TIME went to the other's end: count(0)", x.count(0), 2 + 90 + 1);
        checks.due("state(0)", x.state(0), 3);
    }

    private static void linksAreNoMore(Checks checks) {
        checks.says("ENDING: its links are no more");
        MailProcesses x = net(4);
        trap(x, 0, 2, 3);
        link(x, 1, 0);
        link(x, 2, 1);
        link(x, 2, 3);
        checks.due("process(2, 4)", x.process(2, 4), 2 + 8);
        x.exit(1, 3);
        checks.due("process(0, 4)", x.process(0, 4), 0);
        checks.due("another link stays: process(2, 4)", x.process(2, 4), 8);
        x.spawn(0, 0);
        checks.due("a new one with its number is not linked: process(1, 4)", x.process(1, 4), 0);
        x.exit(0, 9);
        checks.due("state(1)", x.state(1), 1);
        x.exit(1, 4);
        checks.mail("2 hears of the first one only", x, 2, 6, 25);
    }

    private static void monitorsAreNoMore(Checks checks) {
        checks.says("ENDING: its monitors, and those on it, are no more");
        MailProcesses x = net(4);
        monitor(x, 1, 0);
        monitor(x, 2, 1);
        monitor(x, 2, 3);
        x.exit(1, 3);
        checks.due("another monitor stays: process(2, 5)", x.process(2, 5), 8);
        x.spawn(0, 0);
        checks.due("a new one with its number has none: process(1, 5)", x.process(1, 5), 0);
        x.exit(0, 4);
        checks.due("and hears nothing: process(1, 3)", x.process(1, 3), 0);
        x.exit(1, 5);
        checks.mail("there is none on it", x, 2, 7, 25);
    }

    private static void signalsGoByNumbers(Checks checks) {
        checks.says("ENDING: signals of the reason go to all that were linked with it, by numbers");
        MailProcesses x = new MailProcesses();
        Programs.module(x, 0, "RECEIVE 0 4");
        Programs.module(x, 1, "TRAP 0 1", "SET 0 2", "LINK 0", "RECEIVE 64 4");
        x.spawn(0, 0);
        x.spawn(1, 0);
        x.spawn(0, 0);
        x.spawn(1, 0);
        x.exit(0, 1);
        x.spawn(1, 0);
        x.run(9);
        checks.due("process(2, 4)", x.process(2, 4), 1 + 2 + 8);
        x.exit(2, 3);
        checks.queue("in this order they were woken", x, 0, 1, 3);
        for (int p : new int[] {0, 1, 3}) {
            checks.mail("" + p, x, p, 6, 26);
        }
    }

    private static void messagesGoByNumbers(Checks checks) {
        checks.says("ENDING: then messages with tag 7 and the int number + 8 * reason to all that monitored it, by numbers");
        MailProcesses x = new MailProcesses();
        Programs.module(x, 0, "RECEIVE 0 4");
        Programs.module(x, 1, "SET 0 2", "MONITOR 0", "RECEIVE 128 4");
        x.spawn(0, 0);
        x.spawn(1, 0);
        x.spawn(0, 0);
        x.spawn(1, 0);
        x.exit(0, 1);
        x.spawn(1, 0);
        x.run(9);
        x.exit(2, 3);
        checks.queue("in this order they were woken", x, 0, 1, 3);
        for (int p : new int[] {0, 1, 3}) {
            checks.mail("" + p, x, p, 7, 26);
        }
    }

    private static void signalsBeforeMessages(Checks checks) {
        checks.says("ENDING: signals, then messages");
        MailProcesses x = new MailProcesses();
        // 1 and 3 monitor 0; 2 and 4 are linked with it; 5 both.
        Programs.module(x, 0, "RECEIVE 0 4");
        Programs.module(x, 1, "MONITOR 0", "RECEIVE 128 4");
        Programs.module(x, 2, "TRAP 0 1", "LINK 0", "RECEIVE 64 4");
        Programs.module(x, 3, "TRAP 0 1", "MONITOR 0", "LINK 0", "RECEIVE 128 4");
        for (int m : new int[] {0, 1, 2, 1, 2, 3}) {
            x.spawn(m, 0);
        }
        x.run(6);
        checks.queue("all wait", x);
        x.exit(0, 1);
        checks.queue("first 2 and 4, then 1, 3 and 5", x, 2, 4, 1, 3, 5);
        checks.mail("who has both", x, 5, 6, 8, 7, 8);
    }

    private static void leastAndGreatestNumber(Checks checks) {
        checks.says("ENDING: to all that were linked with it, and monitored it: 0 and 7 too");
        MailProcesses x = net(8);
        trap(x, 0, 7);
        for (int p : new int[] {0, 7}) {
            monitor(x, p, 3);
            link(x, p, 3);
        }
        checks.due("process(3, 4)", x.process(3, 4), 129);
        x.exit(3, 2);
        checks.mail("0", x, 0, 6, 19, 7, 19);
        checks.mail("7", x, 7, 6, 19, 7, 19);
        link(x, 1, 7);
        monitor(x, 1, 0);
        x.exit(0, 9);
        checks.mail("1", x, 1, 7, 64);
        x.exit(7, 9);
        checks.due("process(1, 8)", x.process(1, 8), 8);
    }

    private static void reasonZero(Checks checks) {
        checks.says("ENDING with reason 0: a signal of 0 ends nobody, and who TRAPS or monitors is told");
        MailProcesses x = new MailProcesses();
        Programs.module(x, 0, "RECEIVE 1 4");
        Programs.module(x, 1, "LINK 0", "RECEIVE 0 4");
        Programs.module(x, 2, "TRAP 0 1", "LINK 0", "MONITOR 0", "RECEIVE 0 4");
        x.spawn(0, 0);
        x.spawn(1, 0);
        x.spawn(2, 0);
        x.run(3);
        x.send(0, 0, 0);
        x.run(1);
        checks.states("reason 0", x, 3, 2, 2);
        checks.due("process(0, 8)", x.process(0, 8), 0);
        checks.due("process(1, 3)", x.process(1, 3), 0);
        checks.due("the link is no more: process(1, 4)", x.process(1, 4), 0);
        checks.mail("2", x, 2, 6, 0, 7, 0);
    }

    private static void reasonNine(Checks checks) {
        checks.says("ENDING with reason 9: its signals are no EXIT, so that a trap helps, and who has none ends with 9");
        MailProcesses x = new MailProcesses();
        Programs.module(x, 0, "RECEIVE 1 4", "SET 0 9", "END 0");
        Programs.module(x, 1, "LINK 0", "RECEIVE 0 4");
        Programs.module(x, 2, "TRAP 0 1", "LINK 0", "RECEIVE 0 4");
        x.spawn(0, 0);
        x.spawn(1, 0);
        x.spawn(2, 0);
        x.run(3);
        x.send(0, 0, 0);
        x.run(1);
        checks.states("END with 9", x, 3, 3, 2);
        checks.due("process(0, 8)", x.process(0, 8), 9);
        checks.due("process(1, 8)", x.process(1, 8), 9);
        checks.mail("2", x, 2, 6, 72);
    }

    private static void intsWrap(Checks checks) {
        checks.says("p + 8 * reason and number + 8 * reason wrap");
        int[] reasons = {Integer.MAX_VALUE, Integer.MIN_VALUE, 1 << 28, (1 << 28) - 1, 1 << 29, -(1 << 28) - 1, -1};
        int[] ints = {-8, 0, Integer.MIN_VALUE, Integer.MAX_VALUE - 7, 0, Integer.MAX_VALUE - 7, -8};
        for (int i = 0; i < reasons.length; i++) {
            MailProcesses x = net(5);
            trap(x, 4);
            link(x, 4, 3);
            monitor(x, 4, 3);
            x.exit(4, reasons[i]);
            x.exit(3, reasons[i]);
            checks.due("process(3, 8)", x.process(3, 8), reasons[i]);
            checks.mail("reason " + reasons[i], x, 4, 6, 4 + ints[i], 6, 3 + ints[i], 7, 3 + ints[i]);
        }
    }

    private static void lostMessagesOfAnEnding(Checks checks) {
        checks.says("count(4): a message to a process that has 12 is counted, also those of an ending");
        MailProcesses x = net(2);
        trap(x, 1);
        link(x, 1, 0);
        monitor(x, 1, 0);
        for (int i = 0; i < 11; i++) {
            x.send(1, 3, i);
        }
        x.exit(0, 2);
        checks.due("the signal is the twelfth: message(1, 11, 0)", x.message(1, 11, 0), 6);
        checks.due("the message of the monitor is lost: count(4)", x.count(4), 1);
        checks.due("process(1, 3)", x.process(1, 3), 12);
    }

    private static void inTheOrderInWhichTheyCame(Checks checks) {
        checks.says("Endings that come of this are done behind it, one after the other, in the order in which they came");
        MailProcesses x = net(6);
        // 0 has links to 1 and 4, 1 to 3, 4 to 2; the watcher 5 is told of each.
        int[][] pairs = {{0, 1}, {0, 4}, {1, 3}, {4, 2}};
        for (int[] pair : pairs) {
            link(x, pair[0], pair[1]);
        }
        for (int p = 0; p < 5; p++) {
            monitor(x, 5, p);
        }
        checks.due("process(5, 5)", x.process(5, 5), 31);
        x.exit(0, 6);
        checks.states("all but the watcher", x, 3, 3, 3, 3, 3, 2);
        checks.mail("the order", x, 5, 7, 48, 7, 49, 7, 52, 7, 51, 7, 50);
        checks.due("count(5)", x.count(5), 5);
    }

    private static void behindIt(Checks checks) {
        checks.says("Endings that come of this are done behind it: its own messages go first");
        MailProcesses x = net(3);
        // 1 ends by 0; the watcher 2 monitors both, and is told of 0 before 1, though 1 got its signal before.
        link(x, 0, 1);
        monitor(x, 2, 0);
        monitor(x, 2, 1);
        x.exit(0, 4);
        checks.mail("2", x, 2, 7, 32, 7, 33);
    }

    private static void noMoreSignals(Checks checks) {
        checks.says("who is to end gets no more signals");
        MailProcesses x = net(4);
        // 0 ends with 6, so do 1 and 2; each of these is linked with the other and with 3.
        int[][] pairs = {{0, 1}, {0, 2}, {1, 2}, {1, 3}, {2, 3}};
        for (int[] pair : pairs) {
            link(x, pair[0], pair[1]);
        }
        x.exit(0, 6);
        checks.states("all", x, 3, 3, 3, 3);
        checks.due("each ends once: count(5)", x.count(5), 4);
        for (int p = 0; p < 4; p++) {
            checks.due("process(" + p + ", 8)", x.process(p, 8), 6);
        }
    }

    private static void noMoreMessages(Checks checks) {
        checks.says("who is to end gets no more messages; count(4): nor is counted what would go to a process that is to end");
        MailProcesses x = net(2);
        link(x, 1, 0);
        monitor(x, 1, 0);
        for (int i = 0; i < 12; i++) {
            x.send(1, 3, i);
        }
        x.exit(0, 5);
        checks.states("both", x, 3, 3);
        checks.due("1 is full, but to end: count(4)", x.count(4), 0);
        MailProcesses y = new MailProcesses();
        Programs.module(y, 0, "RECEIVE 0 4");
        Programs.module(y, 1, "LINK 0", "MONITOR 0", "RECEIVE 128 4");
        y.spawn(0, 0);
        y.spawn(1, 0);
        y.run(2);
        y.exit(0, 5);
        checks.states("1 is not woken by tag 7", y, 3, 3);
        checks.queue("1 is not woken by tag 7", y);
    }

    private static void trapStopsIt(Checks checks) {
        checks.says("signals go to all that were linked with it: who TRAPS goes on, and what is behind it");
        MailProcesses x = net(3);
        trap(x, 1);
        link(x, 0, 1);
        link(x, 1, 2);
        x.exit(0, 5);
        checks.states("1 traps", x, 3, 2, 2);
        checks.due("process(1, 4)", x.process(1, 4), 4);
        checks.mail("1", x, 1, 6, 40);
        checks.mail("2", x, 2);
    }

    private static void theRunningOne(Checks checks) {
        checks.says("for another one q ENDS with it, also the process whose turn it is");
        MailProcesses x = new MailProcesses();
        Programs.module(x, 0, "RECEIVE 0 4");
        Programs.module(x, 1, "LINK 1", "EXIT 1 0", "TELL 0");
        x.spawn(0, 0);
        x.spawn(1, 4);
        checks.due("run(9)", x.run(9), 2);
        checks.states("by its own signal, over the link", x, 3, 3);
        checks.due("process(1, 8)", x.process(1, 8), 4);
        checks.due("it does no more: count(1)", x.count(1), 0);
        checks.due("count(0)", x.count(0), 1 + 2);
        checks.queue("nobody", x);
    }

    private static void theRunningOneAtItsLastInstruction(Checks checks) {
        checks.says("Where an instruction leads to a place without an instruction: who has ended by it does not end once more");
        MailProcesses x = new MailProcesses();
        Programs.module(x, 0, "RECEIVE 0 4");
        Programs.module(x, 1, "LINK 1", "EXIT 1 0");
        Programs.module(x, 2, "SET 1 7", "LINK 1");
        x.spawn(0, 0);
        x.spawn(1, 4);
        x.spawn(2, 0);
        x.run(9);
        checks.due("over the link: process(1, 8)", x.process(1, 8), 4);
        checks.due("by LINK to what is not alive: process(2, 8)", x.process(2, 8), 7);
        checks.due("count(5)", x.count(5), 3);
    }

    private static void allEight(Checks checks) {
        checks.says("Endings that come of this, of all eight processes");
        MailProcesses x = net(8);
        for (int p = 7; p > 0; p--) {
            link(x, p, p - 1);
        }
        x.exit(7, 3);
        checks.states("a chain", x, 3, 3, 3, 3, 3, 3, 3, 3);
        checks.due("process(0, 8)", x.process(0, 8), 3);
        checks.due("count(5)", x.count(5), 8);
        checks.due("spawn(0, 0)", x.spawn(0, 0), 0);
        x.exit(0, 3);
        checks.due("count(5)", x.count(5), 9);
    }
}
