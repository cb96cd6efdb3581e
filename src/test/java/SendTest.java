import java.util.List;

/** Promise 7 and the instruction SEND: messages, and where they are lost. */
public final class SendTest {
    public static void main(String[] args) {
        Checks checks = new Checks();
        aMessage(checks);
        orderOfTheMailbox(checks);
        notAlive(checks);
        tagIsNone(checks);
        isLost(checks);
        roomAgain(checks);
        wakesWhoWaitsForTheTag(checks);
        otherTagsWakeNobody(checks);
        readyOneStaysWhereItStands(checks);
        lostOneWakesNobody(checks);
        sendInstruction(checks);
        sendEdgesOfTags(checks);
        sendToWhatIsNotAlive(checks);
        sendToAFullOne(checks);
        sendToItself(checks);
        checks.end();
    }

    private static void aMessage(Checks checks) {
        checks.says("send: A message with a tag 0..5 to a process: true");
        for (int tag = 0; tag <= 5; tag++) {
            MailProcesses x = new MailProcesses();
            Programs.module(x, 0, "RECEIVE 0 4");
            x.spawn(0, 0);
            checks.due("to a READY one: send(0, " + tag + ", -7)", x.send(0, tag, -7), true);
            x.run(1);
            checks.due("to a WAITING one: send(0, " + tag + ", 8)", x.send(0, tag, 8), true);
            checks.mail("both", x, 0, tag, -7, tag, 8);
            checks.due("count(4)", x.count(4), 0);
        }
    }

    private static void orderOfTheMailbox(Checks checks) {
        checks.says("MESSAGES (a TAG 0..7 and an int) in the order in which they came");
        MailProcesses x = new MailProcesses();
        Programs.module(x, 0, "TELL 0");
        x.spawn(0, 0);
        x.spawn(0, 0);
        int[] tags = {5, 0, 3, 3, 1};
        int[] ints = {Integer.MAX_VALUE, Integer.MIN_VALUE, 0, -1, 4};
        for (int i = 0; i < tags.length; i++) {
            x.send(0, tags[i], ints[i]);
            x.send(1, tags[tags.length - 1 - i], i);
        }
        checks.mail("0", x, 0, 5, Integer.MAX_VALUE, 0, Integer.MIN_VALUE, 3, 0, 3, -1, 1, 4);
        checks.mail("1", x, 1, 1, 0, 3, 1, 3, 2, 0, 3, 5, 4);
    }

    private static void notAlive(Checks checks) {
        checks.says("send: false if that is not alive");
        MailProcesses x = new MailProcesses();
        Programs.waiter(x, 0, 255);
        x.spawn(0, 0);
        x.exit(1, 1);
        List<String> before = Snapshot.of(x);
        for (int p : new int[] {-1, 1, 2, 7, 8, Integer.MIN_VALUE, Integer.MAX_VALUE}) {
            checks.due("send(" + p + ", 0, 1)", x.send(p, 0, 1), false);
        }
        checks.unchanged("send", x, before);
    }

    private static void tagIsNone(Checks checks) {
        checks.says("send: false if the tag is none");
        MailProcesses x = new MailProcesses();
        int p = Programs.waiter(x, 0, 255);
        List<String> before = Snapshot.of(x);
        for (int tag : new int[] {-1, 6, 7, 8, 32, Integer.MIN_VALUE, Integer.MAX_VALUE}) {
            checks.due("send(0, " + tag + ", 1)", x.send(p, tag, 1), false);
        }
        checks.unchanged("send", x, before);
        for (int i = 0; i < 12; i++) {
            x.send(p, 0, i);
        }
        checks.due("to a full one: send(0, 6, 1)", x.send(p, 6, 1), false);
        checks.due("that is no message, so none is lost: count(4)", x.count(4), 0);
    }

    private static void isLost(Checks checks) {
        checks.says("send: false if the message is lost; a MAILBOX of at most 12");
        MailProcesses x = new MailProcesses();
        Programs.module(x, 0, "RECEIVE 0 4");
        x.spawn(0, 0);
        for (int i = 0; i < 12; i++) {
            checks.due("send " + i, x.send(0, i % 6, i), true);
        }
        checks.due("process(0, 3)", x.process(0, 3), 12);
        checks.due("count(4)", x.count(4), 0);
        checks.due("the thirteenth", x.send(0, 1, 12), false);
        checks.due("count(4)", x.count(4), 1);
        checks.due("the fourteenth", x.send(0, 1, 13), false);
        checks.due("count(4)", x.count(4), 2);
        checks.mail("the twelve", x, 0, 0, 0, 1, 1, 2, 2, 3, 3, 4, 4, 5, 5, 0, 6, 1, 7, 2, 8, 3, 9, 4, 10, 5, 11);
    }

    private static void roomAgain(Checks checks) {
        checks.says("A MESSAGE to a process that has 12 is lost, and to one of which a message was taken is not");
        MailProcesses x = new MailProcesses();
        Programs.module(x, 0, "RECEIVE 32 4", "RECEIVE 0 4");
        x.spawn(0, 0);
        for (int i = 0; i < 11; i++) {
            x.send(0, 1, i);
        }
        x.send(0, 5, 11);
        x.run(1);
        checks.due("one was taken: process(0, 3)", x.process(0, 3), 11);
        checks.due("send again", x.send(0, 1, 13), true);
        checks.due("message(0, 10, 1)", x.message(0, 10, 1), 10);
        checks.due("message(0, 11, 1)", x.message(0, 11, 1), 13);
        checks.due("and again", x.send(0, 1, 14), false);
    }

    private static void wakesWhoWaitsForTheTag(Checks checks) {
        checks.says("If it has a tag for which a WAITING one waits, that is READY, at the back of the queue, and does its RECEIVE again at its turn");
        MailProcesses x = new MailProcesses();
        Programs.module(x, 0, "RECEIVE 10 4", "TELL 0", "TELL 1", "RECEIVE 0 4");
        Programs.module(x, 1, "TELL 0");
        x.spawn(0, 0);
        x.run(1);
        x.spawn(1, 99);
        x.send(0, 2, 52);
        x.send(0, 3, 53);
        checks.due("state(0)", x.state(0), 1);
        checks.due("it is in the mailbox still", x.process(0, 3), 2);
        checks.due("process(0, 0)", x.process(0, 0), 0);
        checks.registers("nothing was taken yet", x, 0, 0, 0, 0, 0);
        x.send(0, 1, 51);
        checks.queue("at the back, once", x, 1, 0);
        int time = x.count(0);
        x.run(2);
        checks.told("the first with one of the tags", x, 99, 53, 3);
        checks.due("RECEIVE was done again, an instruction of its own: count(0)", x.count(0), time + 1 + 4);
        checks.mail("what is left", x, 0, 2, 52, 1, 51);
    }

    private static void otherTagsWakeNobody(Checks checks) {
        checks.says("a tag for which a WAITING one waits: another tag wakes nobody");
        for (int tag = 0; tag <= 5; tag++) {
            MailProcesses x = new MailProcesses();
            int p = Programs.waiter(x, 0, 255 - (1 << tag));
            int q = x.spawn(0, 0);
            x.run(1);
            checks.due("send(0, " + tag + ", 1)", x.send(p, tag, 1), true);
            checks.states("nobody waits for it", x, 2, 2);
            x.send(q, (tag + 1) % 6, 1);
            checks.states("1 alone got what it waits for", x, 2, 1);
        }
    }

    private static void readyOneStaysWhereItStands(Checks checks) {
        checks.says("a tag for which a WAITING one waits: a READY one stays where it stands");
        MailProcesses x = new MailProcesses();
        Programs.module(x, 0, "RECEIVE 1 4");
        x.spawn(0, 0);
        x.spawn(0, 0);
        x.send(0, 0, 1);
        checks.queue("not yet at its RECEIVE", x, 0, 1);
        x.run(2);
        x.spawn(0, 0);
        x.spawn(0, 0);
        x.run(1);
        x.send(1, 0, 1);
        x.send(0, 0, 1);
        x.spawn(0, 0);
        x.send(1, 0, 1);
        checks.due("woken before: ready(0)", x.ready(0), 2);
        checks.due("ready(1)", x.ready(1), 1);
    }

    private static void lostOneWakesNobody(Checks checks) {
        checks.says("A MESSAGE to a process that has 12 is lost, and wakes nobody");
        MailProcesses x = new MailProcesses();
        int p = Programs.waiter(x, 0, 1);
        for (int i = 0; i < 12; i++) {
            x.send(p, 1, i);
        }
        checks.due("send(0, 0, 5)", x.send(p, 0, 5), false);
        checks.due("state(0)", x.state(p), 2);
        checks.due("run(5)", x.run(5), 0);
    }

    private static void sendInstruction(Checks checks) {
        checks.says("6 SEND a message with tag b and the int of register 0 to process Ra");
        MailProcesses x = new MailProcesses();
        int p = Programs.waiter(x, 0, 63);
        Programs.module(x, 1, "SEND 2 3", "SET 0 -8", "SEND 2 1", "RECEIVE 0 4");
        x.spawn(1, 71);
        x.run(1);
        checks.due("state(0)", x.state(p), 1);
        checks.mail("sent", x, p, 3, 71, 1, -8);
        checks.queue("woken, once", x, 0);
        checks.due("count(4)", x.count(4), 0);
        checks.registers("the sender's are as they were", x, 1, -8, 0, 0, 0);
    }

    private static void sendEdgesOfTags(Checks checks) {
        checks.says("6 SEND: tags to send 0..5");
        MailProcesses x = new MailProcesses();
        Programs.module(x, 0, "RECEIVE 0 4");
        Programs.module(x, 1, "SEND 2 0", "SEND 2 5", "RECEIVE 0 4");
        x.spawn(0, 0);
        x.spawn(1, 4);
        x.run(2);
        checks.mail("both edges", x, 0, 0, 4, 5, 4);
    }

    private static void sendToWhatIsNotAlive(Checks checks) {
        checks.says("count(4): a SEND (instruction 6) to what is not alive is counted");
        int count = 0;
        MailProcesses x = new MailProcesses();
        Programs.module(x, 0, "RECEIVE 1 4", "SEND 0 0", "JUMP 0");
        Programs.module(x, 1, "TELL 0");
        x.spawn(0, 0);
        x.spawn(1, 0);
        x.run(2);
        for (int target : new int[] {1, 2, 7, 8, -1, 32, Integer.MIN_VALUE, Integer.MAX_VALUE}) {
            count++;
            x.send(0, 0, target);
            x.run(1);
            checks.due("SEND to " + target + ": count(4)", x.count(4), count);
            checks.due("it goes on: state(0)", x.state(0), 2);
        }
        checks.mail("no message", x, 0);
    }

    private static void sendToAFullOne(Checks checks) {
        checks.says("count(4): a message to a process that has 12 is counted, also of SEND");
        MailProcesses x = new MailProcesses();
        Programs.module(x, 0, "RECEIVE 0 4");
        Programs.module(x, 1, "SEND 1 0", "SEND 1 0", "RECEIVE 0 4");
        x.spawn(0, 0);
        for (int i = 0; i < 11; i++) {
            x.send(0, 1, i);
        }
        x.spawn(1, 5);
        x.run(2);
        checks.due("count(4)", x.count(4), 1);
        checks.due("message(0, 11, 1)", x.message(0, 11, 1), 5);
        checks.due("the sender goes on: state(1)", x.state(1), 2);
    }

    private static void sendToItself(Checks checks) {
        checks.says("6 SEND to process Ra, also to itself");
        MailProcesses x = new MailProcesses();
        Programs.module(x, 0, "SELF 1", "SEND 1 2", "SET 0 0", "RECEIVE 4 4", "TELL 0", "TELL 1");
        x.spawn(0, 12);
        checks.due("run(5)", x.run(5), 1);
        checks.told("its own message", x, 12, 2);
        checks.due("count(0)", x.count(0), 6);
    }
}
