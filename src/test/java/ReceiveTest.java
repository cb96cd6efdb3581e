/** The instruction RECEIVE: taking by tags, and waiting with a limit. */
public final class ReceiveTest {
    public static void main(String[] args) {
        Checks checks = new Checks();
        takesTheFirstWithATag(checks);
        eachTag(checks);
        theOthersKeepTheirOrder(checks);
        registersGetIntAndTag(checks);
        waitsWithoutAnEnd(checks);
        waitsUntil(checks);
        atMostAThousand(checks);
        limitNotAboveZero(checks);
        messageBeforeTheLimit(checks);
        noTagsAtAll(checks);
        timeIsUp(checks);
        messageBeforeTheTurnThatWakes(checks);
        endsAtItsTurn(checks);
        takesWhatCameOfSignals(checks);
        waitsAgain(checks);
        checks.end();
    }

    private static void takesTheFirstWithATag(Checks checks) {
        checks.says("RECEIVE takes the first message with one of its tags out of the mailbox");
        MailProcesses x = new MailProcesses();
        Programs.module(x, 0, "RECEIVE 6 4", "TELL 0", "TELL 1", "RECEIVE 6 4", "TELL 0", "TELL 1", "RECEIVE 255 4", "TELL 0", "TELL 1");
        x.spawn(0, 0);
        x.send(0, 3, 30);
        x.send(0, 2, 20);
        x.send(0, 1, 10);
        x.send(0, 2, 21);
        checks.due("run(9)", x.run(9), 2);
        checks.told("by the order in which they came", x, 20, 2, 10, 1, 30, 3);
        checks.due("state(0)", x.state(0), 3);
    }

    private static void eachTag(Checks checks) {
        checks.says("7 RECEIVE tags a (the sum of 2^tag)");
        for (int tag = 0; tag <= 5; tag++) {
            MailProcesses x = new MailProcesses();
            Programs.module(x, 0, "RECEIVE " + (1 << tag) + " 4", "RECEIVE 0 4");
            x.spawn(0, 0);
            for (int other = 5; other >= 0; other--) {
                x.send(0, other, 10 + other);
            }
            x.run(1);
            checks.registers("tag " + tag, x, 0, 10 + tag, tag, 0, 0);
            checks.due("process(0, 3)", x.process(0, 3), 5);
        }
    }

    /** A full mailbox, taken from its front, its middle and its back. */
    private static void theOthersKeepTheirOrder(Checks checks) {
        checks.says("RECEIVE takes it out of the mailbox: the others are in the order in which they came");
        int[] taken = {0, 5, 10, 11};
        for (int k : taken) {
            MailProcesses x = new MailProcesses();
            Programs.module(x, 0, "RECEIVE 2 4", "RECEIVE 0 4");
            x.spawn(0, 0);
            x.spawn(0, 0);
            x.send(1, 3, 1000);
            for (int i = 0; i < 12; i++) {
                x.send(0, i == k ? 1 : 2 + i % 4, i);
            }
            x.run(1);
            checks.due("register(0, 0)", x.register(0, 0), k);
            checks.due("process(0, 3)", x.process(0, 3), 11);
            for (int i = 0; i < 11; i++) {
                int was = i < k ? i : i + 1;
                checks.due(k + " taken: message(0, " + i + ", 0)", x.message(0, i, 0), 2 + was % 4);
                checks.due(k + " taken: message(0, " + i + ", 1)", x.message(0, i, 1), was);
            }
            checks.due("nothing behind them: message(0, 11, 0)", x.message(0, 11, 0), 10000000000L);
            checks.mail("the next mailbox", x, 1, 3, 1000);
        }
    }

    private static void registersGetIntAndTag(Checks checks) {
        checks.says("register 0 gets its int, register 1 its tag");
        for (int v : new int[] {0, -1, Integer.MIN_VALUE, Integer.MAX_VALUE}) {
            MailProcesses x = new MailProcesses();
            Programs.module(x, 0, "SET 1 50", "SET 2 51", "SET 3 52", "RECEIVE 63 4", "RECEIVE 0 4");
            x.spawn(0, 49);
            x.send(0, 4, v);
            x.run(1);
            checks.registers("taken", x, 0, v, 4, 51, 52);
        }
    }

    private static void waitsWithoutAnEnd(Checks checks) {
        checks.says("If there is none it WAITS (limit 4: without an end)");
        MailProcesses x = new MailProcesses();
        Programs.module(x, 0, "SET 2 1", "RECEIVE 1 4", "TELL 0");
        x.spawn(0, 1);
        checks.due("run(100)", x.run(100), 1);
        checks.due("state(0)", x.state(0), 2);
        checks.due("process(0, 0)", x.process(0, 0), 1);
        checks.due("process(0, 7)", x.process(0, 7), -1);
        checks.due("run(100) again", x.run(100), 0);
        checks.due("count(0)", x.count(0), 2);
        checks.registers("as they were", x, 0, 1, 0, 1, 0);
    }

    private static void waitsUntil(Checks checks) {
        checks.says("with a limit b 0..3, if Rb is above 0, until the TIME then (behind this instruction) + Rb");
        for (int limit = 0; limit < 4; limit++) {
            MailProcesses x = new MailProcesses();
            Programs.module(x, 0, "SET 0 0", "SET " + limit + " 5", "RECEIVE 1 " + limit, "TELL 1");
            x.spawn(0, 0);
            x.run(1);
            checks.due("state(0), limit " + limit, x.state(0), 2);
            checks.due("process(0, 7), limit " + limit, x.process(0, 7), 5);
            checks.due("count(0)", x.count(0), 3);
            checks.due("run(9)", x.run(9), 1);
            checks.due("count(0), limit " + limit, x.count(0), 3 + 5 + 1);
            checks.told("limit " + limit, x, -1);
        }
    }

    private static void atMostAThousand(Checks checks) {
        checks.says("at most + 1000");
        int[] limits = {1, 999, 1000, 1001, 2000, Integer.MAX_VALUE};
        int[] lefts = {1, 999, 1000, 1000, 1000, 1000};
        for (int i = 0; i < limits.length; i++) {
            MailProcesses x = new MailProcesses();
            Programs.module(x, 0, "RECEIVE 1 0", "TELL 1");
            x.spawn(0, limits[i]);
            x.run(1);
            checks.due("process(0, 7), limit " + limits[i], x.process(0, 7), lefts[i]);
            checks.due("the register is as it was", x.register(0, 0), limits[i]);
            x.run(1);
            checks.due("count(0), limit " + limits[i], x.count(0), lefts[i] + 2);
        }
    }

    private static void limitNotAboveZero(Checks checks) {
        checks.says("else register 1 gets -1, and it goes on");
        for (int v : new int[] {0, -1, Integer.MIN_VALUE}) {
            MailProcesses x = new MailProcesses();
            Programs.module(x, 0, "RECEIVE 1 0", "TELL 0", "TELL 1");
            x.spawn(0, v);
            x.send(0, 1, 5);
            checks.due("run(9), limit " + v, x.run(9), 1);
            checks.told("limit " + v, x, v, -1);
            checks.due("in the same turn: count(0), limit " + v, x.count(0), 3);
        }
    }

    private static void messageBeforeTheLimit(Checks checks) {
        checks.says("If there is none: the limit is looked at only then");
        for (int v : new int[] {0, -1, 5}) {
            MailProcesses x = new MailProcesses();
            Programs.module(x, 0, "RECEIVE 1 0", "TELL 0", "TELL 1");
            x.spawn(0, v);
            x.send(0, 0, 77);
            checks.due("run(9)", x.run(9), 1);
            checks.told("a message that is there is taken", x, 77, 0);
            checks.due("at once: count(0)", x.count(0), 3);
        }
    }

    private static void noTagsAtAll(Checks checks) {
        checks.says("7 RECEIVE tags 0: no message has one of them");
        MailProcesses x = new MailProcesses();
        Programs.module(x, 0, "SET 3 4", "RECEIVE 0 3", "TELL 1");
        x.spawn(0, 0);
        x.send(0, 0, 1);
        x.run(1);
        for (int tag = 0; tag <= 5; tag++) {
            x.send(0, tag, 1);
        }
        checks.due("state(0)", x.state(0), 2);
        x.run(1);
        checks.told("only the time wakes it", x, -1);
    }

    private static void timeIsUp(Checks checks) {
        checks.says("register 1 gets -1, and they go on behind the RECEIVE");
        MailProcesses x = new MailProcesses();
        Programs.module(x, 0, "SET 2 2", "RECEIVE 1 2", "TELL 0", "TELL 1", "RECEIVE 0 4");
        Programs.module(x, 1, "JUMP 0");
        x.spawn(0, 40);
        x.spawn(1, 0);
        x.run(1);
        x.send(0, 3, 1);
        x.run(1);
        checks.due("it is over, but no turn has begun: state(0)", x.state(0), 2);
        checks.due("process(0, 7)", x.process(0, 7), 0);
        checks.due("process(0, 0)", x.process(0, 0), 1);
        x.run(1);
        checks.due("count(0)", x.count(0), 2 + 8 + 8);
        checks.queue("it came to the back first, then 1 had its turn", x, 0, 1);
        checks.due("register(0, 1)", x.register(0, 1), -1);
        checks.due("process(0, 0)", x.process(0, 0), 2);
        checks.due("process(0, 7)", x.process(0, 7), -1);
        x.send(0, 0, 60);
        x.run(1);
        checks.told("what comes now is too late", x, 40, -1);
        checks.mail("the messages are there still", x, 0, 3, 1, 0, 60);
    }

    private static void messageBeforeTheTurnThatWakes(Checks checks) {
        checks.says("does its RECEIVE again at its turn, also if its end is over by then");
        MailProcesses x = new MailProcesses();
        Programs.module(x, 0, "SET 2 2", "RECEIVE 1 2", "TELL 0", "TELL 1", "RECEIVE 0 4");
        Programs.module(x, 1, "JUMP 0");
        x.spawn(0, 40);
        x.spawn(1, 0);
        x.run(2);
        x.send(0, 0, 90);
        checks.due("state(0)", x.state(0), 1);
        checks.due("process(0, 0)", x.process(0, 0), 1);
        x.run(2);
        checks.told("the message counts, not the time", x, 90, 0);
        checks.due("run(20)", x.run(20), 20);
        checks.due("no end is left of it: state(0)", x.state(0), 2);
    }

    private static void endsAtItsTurn(Checks checks) {
        checks.says("(or end, at their turn, where there is nothing)");
        MailProcesses x = new MailProcesses();
        Programs.module(x, 0, "RECEIVE 1 0");
        Programs.module(x, 1, "JUMP 0");
        x.spawn(0, 3);
        x.spawn(1, 0);
        x.run(3);
        checks.due("not before: state(0)", x.state(0), 1);
        checks.due("process(0, 0)", x.process(0, 0), 1);
        checks.queue("it stands there", x, 0, 1);
        checks.due("run(1)", x.run(1), 1);
        checks.due("state(0)", x.state(0), 3);
        checks.due("process(0, 8)", x.process(0, 8), 0);
        checks.due("register(0, 1)", x.register(0, 1), -1);
    }

    private static void takesWhatCameOfSignals(Checks checks) {
        checks.says("tags to receive 0..255: those with tags 6 and 7 too");
        MailProcesses x = new MailProcesses();
        Programs.module(x, 0, "RECEIVE 0 4");
        Programs.module(x, 1, "TRAP 0 1", "LINK 0", "MONITOR 0", "RECEIVE 128 4", "TELL 0", "TELL 1", "RECEIVE 64 4", "TELL 0", "TELL 1", "RECEIVE 0 4");
        x.spawn(0, 0);
        x.spawn(1, 0);
        x.run(2);
        x.exit(0, 3);
        x.run(2);
        checks.told("7 is waited for first, though 6 came before", x, 24, 7, 24, 6);
    }

    private static void waitsAgain(Checks checks) {
        checks.says("until the TIME then: a wait has its own end, not that of the one before");
        MailProcesses x = new MailProcesses();
        Programs.module(x, 0, "SET 2 30", "RECEIVE 1 2", "SET 2 100", "RECEIVE 2 2", "RECEIVE 4 4");
        x.spawn(0, 0);
        x.run(1);
        checks.due("process(0, 7)", x.process(0, 7), 30);
        x.send(0, 0, 0);
        x.run(1);
        checks.due("the second: process(0, 7)", x.process(0, 7), 100);
        x.send(0, 0, 0);
        checks.due("it waits for other tags now: state(0)", x.state(0), 2);
        x.send(0, 1, 0);
        x.run(1);
        checks.due("the third: process(0, 7)", x.process(0, 7), -1);
        checks.due("run(9)", x.run(9), 0);
    }
}
