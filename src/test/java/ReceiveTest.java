/** The instruction RECEIVE: taking by tags, and waiting with a limit. */
public final class ReceiveTest {
    public static void main(String[] args) {
        Checks checks = new Checks();
        takesTheFirstWithATag(checks);
        theOthersKeepTheirOrder(checks);
        noLimitAtAll(checks);
        limitNotAboveZero(checks);
        limitIsCountedFromBehind(checks);
        atMostAThousand(checks);
        limitRegisterIsLookedAtWithoutAMessage(checks);
        timeIsUp(checks);
        messageBeforeTheTurnThatWakes(checks);
        endsAtItsTurnBehindTheReceive(checks);
        noTagsAtAll(checks);
        checks.end();
    }

    private static void takesTheFirstWithATag(Checks checks) {
        MailProcesses x = new MailProcesses();
        Programs.module(x, 0, "RECEIVE 6 4", "TELL 0", "TELL 1", "RECEIVE 6 4", "TELL 0", "TELL 1", "RECEIVE 255 4", "TELL 0", "TELL 1");
        x.spawn(0, 0);
        x.send(0, 3, 30);
        x.send(0, 2, 20);
        x.send(0, 1, 10);
        x.send(0, 2, 21);
        checks.due("run(9)", x.run(9), 2);
        checks.told("by the order in which they came", x, 20, 2, 10, 1, 30, 3);
        checks.due("state(0)", x.state(0), 3);
    }

    /** A full mailbox, taken from its front, its middle and its back. */
    private static void theOthersKeepTheirOrder(Checks checks) {
        int[] taken = {0, 5, 10, 11};
        for (int k : taken) {
            MailProcesses x = new MailProcesses();
            Programs.module(x, 0, "RECEIVE 2 4", "RECEIVE 0 4");
            x.spawn(0, 0);
            x.spawn(0, 0);
            x.send(1, 3, 1000);
            for (int i = 0; i < 12; i++) {
                x.send(0, i == k ? 1 : 2 + i % 4, i);
            }
            x.run(1);
            checks.due("register(0, 0)", x.register(0, 0), k);
            checks.due("process(0, 3)", x.process(0, 3), 11);
            for (int i = 0; i < 11; i++) {
                int was = i < k ? i : i + 1;
                checks.due(k + " taken: message(0, " + i + ", 0)", x.message(0, i, 0), 2 + was % 4);
                checks.due(k + " taken: message(0, " + i + ", 1)", x.message(0, i, 1), was);
            }
            checks.mail("the next mailbox", x, 1, 3, 1000);
        }
    }

    private static void noLimitAtAll(Checks checks) {
        MailProcesses x = new MailProcesses();
        Programs.module(x, 0, "SET 2 1", "RECEIVE 1 4", "TELL 0");
        x.spawn(0, 0);
        checks.due("run(100)", x.run(100), 1);
        checks.due("state(0)", x.state(0), 2);
        checks.due("process(0, 0)", x.process(0, 0), 1);
        checks.due("process(0, 7)", x.process(0, 7), -1);
        checks.due("run(100) again", x.run(100), 0);
        checks.due("count(0)", x.count(0), 2);
    }

    private static void limitNotAboveZero(Checks checks) {
        for (int v : new int[] {0, -1, Integer.MIN_VALUE}) {
            MailProcesses x = new MailProcesses();
            Programs.module(x, 0, "RECEIVE 1 0", "TELL 0", "TELL 1");
            x.spawn(0, v);
            checks.due("run(9), limit " + v, x.run(9), 1);
            checks.told("limit " + v, x, v, -1);
            checks.due("count(0), limit " + v, x.count(0), 3);
        }
    }

    private static void limitIsCountedFromBehind(Checks checks) {
        for (int limit = 0; limit < 4; limit++) {
            MailProcesses x = new MailProcesses();
            Programs.module(x, 0, "SET 0 0", "SET " + limit + " 5", "RECEIVE 1 " + limit, "TELL 1");
            x.spawn(0, 0);
            x.run(1);
            checks.due("process(0, 7), limit " + limit, x.process(0, 7), 5);
            checks.due("count(0)", x.count(0), 3);
            checks.due("run(9)", x.run(9), 1);
            checks.due("count(0), limit " + limit, x.count(0), 3 + 5 + 1);
            checks.told("limit " + limit, x, -1);
        }
    }

    private static void atMostAThousand(Checks checks) {
        int[] limits = {1, 999, 1000, 1001, Integer.MAX_VALUE};
        int[] lefts = {1, 999, 1000, 1000, 1000};
        for (int i = 0; i < limits.length; i++) {
            MailProcesses x = new MailProcesses();
            Programs.module(x, 0, "RECEIVE 1 0", "TELL 1");
            x.spawn(0, limits[i]);
            x.run(1);
            checks.due("process(0, 7), limit " + limits[i], x.process(0, 7), lefts[i]);
            x.run(1);
            checks.due("count(0), limit " + limits[i], x.count(0), lefts[i] + 2);
        }
    }

    private static void limitRegisterIsLookedAtWithoutAMessage(Checks checks) {
        MailProcesses x = new MailProcesses();
        Programs.module(x, 0, "RECEIVE 1 0", "TELL 0", "TELL 1");
        x.spawn(0, 0);
        x.send(0, 0, 77);
        x.run(1);
        checks.told("a message that is there is taken", x, 77, 0);
    }

    private static void timeIsUp(Checks checks) {
        MailProcesses x = new MailProcesses();
        Programs.module(x, 0, "SET 2 2", "RECEIVE 1 2", "TELL 0", "TELL 1", "RECEIVE 0 4");
        Programs.module(x, 1, "JUMP 0");
        x.spawn(0, 40);
        x.spawn(1, 0);
        x.run(1);
        x.send(0, 3, 1);
        x.run(1);
        checks.due("it is over, but no turn has begun: state(0)", x.state(0), 2);
        checks.due("process(0, 7)", x.process(0, 7), 0);
        checks.due("process(0, 0)", x.process(0, 0), 1);
        x.run(1);
        checks.due("count(0)", x.count(0), 2 + 8 + 8);
        checks.queue("it came to the back first, then 1 had its turn", x, 0, 1);
        checks.due("register(0, 1)", x.register(0, 1), -1);
        checks.due("process(0, 0)", x.process(0, 0), 2);
        checks.due("process(0, 7)", x.process(0, 7), -1);
        x.run(1);
        checks.told("register 0 is as it was", x, 40, -1);
        checks.mail("the other message is there still", x, 0, 3, 1);
    }

    private static void messageBeforeTheTurnThatWakes(Checks checks) {
        MailProcesses x = new MailProcesses();
        Programs.module(x, 0, "SET 2 2", "RECEIVE 1 2", "TELL 0", "TELL 1", "RECEIVE 0 4");
        Programs.module(x, 1, "JUMP 0");
        x.spawn(0, 40);
        x.spawn(1, 0);
        x.run(2);
        x.send(0, 0, 90);
        checks.due("state(0)", x.state(0), 1);
        checks.due("process(0, 0)", x.process(0, 0), 1);
        x.run(2);
        checks.told("the message counts, not the time", x, 90, 0);
        checks.due("run(20)", x.run(20), 20);
        checks.due("no end is left of it: state(0)", x.state(0), 2);
    }

    private static void endsAtItsTurnBehindTheReceive(Checks checks) {
        MailProcesses x = new MailProcesses();
        Programs.module(x, 0, "RECEIVE 1 0");
        Programs.module(x, 1, "JUMP 0");
        x.spawn(0, 3);
        x.spawn(1, 0);
        x.run(3);
        checks.due("state(0)", x.state(0), 1);
        checks.due("process(0, 0)", x.process(0, 0), 1);
        int time = x.count(0);
        checks.due("run(1)", x.run(1), 1);
        checks.due("state(0)", x.state(0), 3);
        checks.due("process(0, 8)", x.process(0, 8), 0);
        checks.due("such an end is no instruction: count(0)", x.count(0), time);
        checks.due("but it is a turn: count(2)", x.count(2), 4);
        checks.due("register(0, 1)", x.register(0, 1), -1);
    }

    private static void noTagsAtAll(Checks checks) {
        MailProcesses x = new MailProcesses();
        Programs.module(x, 0, "SET 3 4", "RECEIVE 0 3", "TELL 1");
        x.spawn(0, 0);
        x.run(1);
        for (int tag = 0; tag <= 5; tag++) {
            x.send(0, tag, 1);
        }
        checks.due("state(0)", x.state(0), 2);
        x.run(1);
        checks.told("only the time wakes it", x, -1);
    }
}
