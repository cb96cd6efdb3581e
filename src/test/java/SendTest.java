/** Promise 7 and the instruction SEND: messages, and where they are lost. */
public final class SendTest {
    public static void main(String[] args) {
        Checks checks = new Checks();
        wrongInputs(checks);
        orderOfTheMailbox(checks);
        fullMailbox(checks);
        wakesOnlyWhoWaitsForTheTag(checks);
        fullMailboxWakesNobody(checks);
        sendInstruction(checks);
        sendInstructionLost(checks);
        sendToItself(checks);
        checks.end();
    }

    private static void wrongInputs(Checks checks) {
        MailProcesses x = new MailProcesses();
        int p = Programs.waiter(x, 0, 255);
        for (int q : new int[] {-1, 1, 7, 8, Integer.MIN_VALUE, Integer.MAX_VALUE}) {
            checks.due("send(" + q + ", 0, 1)", x.send(q, 0, 1), false);
        }
        for (int tag : new int[] {-1, 6, 7, 8, 32, Integer.MIN_VALUE, Integer.MAX_VALUE}) {
            checks.due("send(0, " + tag + ", 1)", x.send(p, tag, 1), false);
        }
        checks.due("process(0, 3)", x.process(p, 3), 0);
        checks.due("state(0)", x.state(p), 2);
        x.exit(p, 1);
        checks.due("send to an ENDED one", x.send(p, 0, 1), false);
        checks.due("a call to what is not alive is not counted: count(4)", x.count(4), 0);
    }

    private static void orderOfTheMailbox(Checks checks) {
        MailProcesses x = new MailProcesses();
        Programs.module(x, 0, "TELL 0");
        x.spawn(0, 0);
        for (int tag = 0; tag <= 5; tag++) {
            checks.due("send(0, " + tag + ", ..)", x.send(0, tag, -tag), true);
        }
        checks.due("send(0, 0, least)", x.send(0, 0, Integer.MIN_VALUE), true);
        checks.mail("as they came", x, 0, 0, 0, 1, -1, 2, -2, 3, -3, 4, -4, 5, -5, 0, Integer.MIN_VALUE);
        checks.queue("a READY one stays where it stands", x, 0);
    }

    private static void fullMailbox(Checks checks) {
        MailProcesses x = new MailProcesses();
        Programs.module(x, 0, "RECEIVE 32 4", "RECEIVE 0 4");
        x.spawn(0, 0);
        x.run(1);
        for (int i = 0; i < 11; i++) {
            checks.due("send " + i, x.send(0, 1, i), true);
        }
        checks.due("the twelfth", x.send(0, 5, 11), true);
        checks.due("the thirteenth", x.send(0, 1, 12), false);
        checks.due("count(4)", x.count(4), 1);
        checks.due("wrong tag to a full one", x.send(0, 6, 12), false);
        checks.due("count(4)", x.count(4), 1);
        checks.due("process(0, 3)", x.process(0, 3), 12);
        x.run(1);
        checks.due("one was taken: process(0, 3)", x.process(0, 3), 11);
        checks.due("register(0, 0)", x.register(0, 0), 11);
        checks.due("register(0, 1)", x.register(0, 1), 5);
        checks.due("send again", x.send(0, 1, 13), true);
        checks.due("message(0, 10, 1)", x.message(0, 10, 1), 10);
        checks.due("message(0, 11, 1)", x.message(0, 11, 1), 13);
    }

    private static void wakesOnlyWhoWaitsForTheTag(Checks checks) {
        MailProcesses x = new MailProcesses();
        Programs.module(x, 0, "RECEIVE 10 4", "TELL 0", "TELL 1", "RECEIVE 0 4");
        Programs.module(x, 1, "TELL 0");
        x.spawn(0, 0);
        x.run(1);
        x.spawn(1, 99);
        x.send(0, 0, 50);
        x.send(0, 2, 52);
        x.send(0, 4, 54);
        x.send(0, 5, 55);
        checks.due("others wake nobody: state(0)", x.state(0), 2);
        x.send(0, 3, 53);
        checks.due("state(0)", x.state(0), 1);
        checks.due("it is in the mailbox still", x.process(0, 3), 5);
        checks.due("process(0, 0)", x.process(0, 0), 0);
        x.send(0, 1, 51);
        checks.queue("at the back, once", x, 1, 0);
        int time = x.count(0);
        x.run(2);
        checks.told("the first with one of the tags", x, 99, 53, 3);
        checks.due("RECEIVE was done again, an instruction of its own: count(0)", x.count(0), time + 1 + 4);
        checks.mail("what is left", x, 0, 0, 50, 2, 52, 4, 54, 5, 55, 1, 51);
    }

    private static void fullMailboxWakesNobody(Checks checks) {
        MailProcesses x = new MailProcesses();
        int p = Programs.waiter(x, 0, 1);
        for (int i = 0; i < 12; i++) {
            x.send(p, 1, i);
        }
        checks.due("send(0, 0, 5)", x.send(p, 0, 5), false);
        checks.due("state(0)", x.state(p), 2);
        checks.due("run(5)", x.run(5), 0);
    }

    private static void sendInstruction(Checks checks) {
        MailProcesses x = new MailProcesses();
        int p = Programs.waiter(x, 0, 63);
        Programs.module(x, 1, "SEND 2 5", "SET 0 -8", "SEND 2 0", "RECEIVE 0 4");
        x.spawn(1, 71);
        x.run(1);
        checks.due("state(0)", x.state(p), 1);
        checks.mail("sent", x, p, 5, 71, 0, -8);
        checks.queue("woken", x, 0);
        checks.due("count(4)", x.count(4), 0);
    }

    private static void sendInstructionLost(Checks checks) {
        MailProcesses x = new MailProcesses();
        Programs.module(x, 0, "SET 1 3", "SEND 1 0", "SET 1 8", "SEND 1 0", "SET 1 -1", "SEND 1 0", "RECEIVE 0 4");
        x.spawn(0, 0);
        x.run(1);
        checks.due("to what is not alive: count(4)", x.count(4), 3);
        checks.due("state(0)", x.state(0), 2);
        Programs.module(x, 1, "SEND 1 0", "SEND 1 0", "RECEIVE 0 4");
        for (int i = 0; i < 11; i++) {
            x.send(0, 1, i);
        }
        x.spawn(1, 5);
        x.run(1);
        checks.due("to a full one: count(4)", x.count(4), 4);
        checks.due("message(0, 11, 1)", x.message(0, 11, 1), 5);
    }

    private static void sendToItself(Checks checks) {
        MailProcesses x = new MailProcesses();
        Programs.module(x, 0, "SELF 1", "SEND 1 2", "SET 0 0", "RECEIVE 4 4", "TELL 0", "TELL 1");
        x.spawn(0, 12);
        checks.due("run(5)", x.run(5), 1);
        checks.told("its own message", x, 12, 2);
        checks.due("count(0)", x.count(0), 6);
    }
}
