import java.util.List;

/** Promises 10 to 16: what can be read, and that reading changes nothing. */
public final class ReadTest {
    private static final int LEAST = Integer.MIN_VALUE;
    private static final int MOST = Integer.MAX_VALUE;
    private static final int[] NUMBERS = {-1, 8, 9, 16, LEAST, MOST};
    private static final long NO_MESSAGE = 10000000000L;

    public static void main(String[] args) {
        Checks checks = new Checks();
        state(checks);
        stateOfNoNumber(checks);
        place(checks);
        module(checks);
        inTheOldVersion(checks);
        howManyMessages(checks);
        links(checks);
        monitors(checks);
        traps(checks);
        timeLeft(checks);
        timeLeftIsOver(checks);
        timeLeftWithoutOne(checks);
        timeLeftOfAReadyOne(checks);
        reason(checks);
        noneForOthers(checks);
        noneForOtherWhats(checks);
        register(checks);
        registerOfAnEndedOne(checks);
        registerOtherwise(checks);
        message(checks);
        messageIfThereIsNone(checks);
        messageForAnotherWhat(checks);
        ready(checks);
        readyIfThereIsNone(checks);
        told(checks);
        toldIfThereIsNone(checks);
        toldAfterMoreThanSixteen(checks);
        counts(checks);
        countOfLostMessages(checks);
        countOfOthers(checks);
        readingChangesNothing(checks);
        checks.end();
    }

    /** 0 is READY, 1 is WAITING, 2 has ENDED with 5, 3 is none. */
    private static MailProcesses oneOfEach() {
        MailProcesses x = new MailProcesses();
        Programs.module(x, 0, "ZERO 0 2", "RECEIVE 0 4", "JUMP 2");
        x.spawn(0, 0);
        x.spawn(0, 1);
        x.spawn(0, 0);
        x.run(2);
        x.exit(2, 5);
        return x;
    }

    private static void state(Checks checks) {
        checks.says("state: What a process is, 0 to 3");
        checks.states("each kind", oneOfEach(), 1, 2, 3, 0, 0, 0, 0, 0);
        MailProcesses x = new MailProcesses();
        Programs.module(x, 0, "JUMP 0");
        for (int p = 0; p < 8; p++) {
            x.spawn(0, 0);
        }
        checks.states("PROCESSES are 0..7", x, 1, 1, 1, 1, 1, 1, 1, 1);
    }

    private static void stateOfNoNumber(Checks checks) {
        checks.says("state: NONE if there is no such number");
        MailProcesses x = oneOfEach();
        for (int p : NUMBERS) {
            checks.due("state(" + p + ")", x.state(p), -1);
        }
    }

    private static void place(Checks checks) {
        checks.says("process, what 0: its place (the number of the instruction that comes next, or that is RECEIVE where it waits)");
        MailProcesses x = new MailProcesses();
        Programs.module(x, 0, "SET 1 1", "RECEIVE 1 4", "SET 1 1", "SET 1 1", "JUMP 2");
        x.spawn(0, 0);
        checks.due("new: process(0, 0)", x.process(0, 0), 0);
        x.run(1);
        checks.due("it waits: process(0, 0)", x.process(0, 0), 1);
        x.send(0, 0, 0);
        checks.due("woken, and does its RECEIVE again: process(0, 0)", x.process(0, 0), 1);
        x.run(1);
        checks.due("behind eight: process(0, 0)", x.process(0, 0), 3);
        MailProcesses y = new MailProcesses();
        Programs.draft(y, "JUMP 23");
        for (int i = 1; i < 23; i++) {
            Programs.draft(y, "SET 1 1");
        }
        Programs.module(y, 0, "RECEIVE 0 4");
        y.spawn(0, 0);
        y.run(1);
        checks.due("the last place: process(0, 0)", y.process(0, 0), 23);
    }

    private static void module(Checks checks) {
        checks.says("process, what 1: its module");
        MailProcesses x = new MailProcesses();
        for (int m = 0; m < 4; m++) {
            Programs.module(x, m, "CALL " + (3 - m));
            x.spawn(m, 0);
            checks.due("process(" + m + ", 1)", x.process(m, 1), m);
        }
        Programs.module(x, 3, "RECEIVE 0 4");
        checks.due("in the old version: process(3, 1)", x.process(3, 1), 3);
        x.run(1);
        checks.due("behind a CALL: process(0, 1)", x.process(0, 1), 3);
    }

    private static void inTheOldVersion(Checks checks) {
        checks.says("process, what 2: 1 if it is in the old version");
        MailProcesses x = new MailProcesses();
        Programs.module(x, 0, "JUMP 0");
        x.spawn(0, 0);
        checks.due("process(0, 2)", x.process(0, 2), 0);
        Programs.module(x, 0, "JUMP 0");
        x.spawn(0, 0);
        checks.due("process(0, 2)", x.process(0, 2), 1);
        checks.due("process(1, 2)", x.process(1, 2), 0);
    }

    private static void howManyMessages(Checks checks) {
        checks.says("process, what 3: how many messages");
        MailProcesses x = new MailProcesses();
        Programs.module(x, 0, "RECEIVE 0 4");
        x.spawn(0, 0);
        for (int i = 0; i <= 14; i++) {
            checks.due(i + " were sent: process(0, 3)", x.process(0, 3), Math.min(i, 12));
            x.send(0, 2, 9);
        }
    }

    /** Process 7 does the op with each of the others. */
    private static MailProcesses toAllOthers(String op) {
        MailProcesses x = new MailProcesses();
        Programs.module(x, 0, "RECEIVE 0 4");
        Programs.module(x, 1, "RECEIVE 1 4", op + " 0", "JUMP 0");
        for (int p = 0; p < 7; p++) {
            x.spawn(0, 0);
        }
        x.spawn(1, 0);
        x.run(8);
        for (int p = 0; p < 7; p++) {
            x.send(7, 0, p);
            x.run(1);
        }
        return x;
    }

    private static void links(Checks checks) {
        checks.says("process, what 4: links, as the sum of 2^number");
        MailProcesses x = toAllOthers("LINK");
        checks.due("process(7, 4)", x.process(7, 4), 127);
        checks.due("process(7, 5)", x.process(7, 5), 0);
        for (int p = 0; p < 7; p++) {
            checks.due("process(" + p + ", 4)", x.process(p, 4), 128);
        }
    }

    private static void monitors(Checks checks) {
        checks.says("process, what 5: monitors on others, as the sum of 2^number");
        MailProcesses x = toAllOthers("MONITOR");
        checks.due("process(7, 5)", x.process(7, 5), 127);
        checks.due("process(7, 4)", x.process(7, 4), 0);
        for (int p = 0; p < 7; p++) {
            checks.due("process(" + p + ", 5)", x.process(p, 5), 0);
        }
    }

    private static void traps(Checks checks) {
        checks.says("process, what 6: 1 if it TRAPS");
        MailProcesses x = new MailProcesses();
        Programs.module(x, 0, "TRAP 0 1", "RECEIVE 0 4");
        x.spawn(0, 0);
        x.spawn(0, 0);
        checks.due("process(0, 6)", x.process(0, 6), 0);
        x.run(1);
        checks.due("process(0, 6)", x.process(0, 6), 1);
        checks.due("process(1, 6)", x.process(1, 6), 0);
    }

    private static void timeLeft(Checks checks) {
        checks.says("process, what 7: the time left to its end of waiting");
        MailProcesses x = new MailProcesses();
        Programs.module(x, 0, "RECEIVE 0 0");
        Programs.module(x, 1, "SET 1 1", "SET 1 2", "RECEIVE 0 4");
        x.spawn(0, 30);
        x.run(1);
        checks.due("process(0, 7)", x.process(0, 7), 30);
        x.spawn(1, 0);
        x.run(1);
        checks.due("behind three instructions: process(0, 7)", x.process(0, 7), 27);
    }

    private static void timeLeftIsOver(Checks checks) {
        checks.says("process, what 7: 0 if that is over");
        for (int limit : new int[] {1, 3, 8, 9}) {
            MailProcesses x = new MailProcesses();
            Programs.module(x, 0, "RECEIVE 0 0");
            Programs.module(x, 1, "JUMP 0");
            x.spawn(0, limit);
            x.run(1);
            x.spawn(1, 0);
            x.run(1);
            checks.due("state(0)", x.state(0), 2);
            checks.due("limit " + limit + ", behind eight: process(0, 7)", x.process(0, 7), limit == 9 ? 1 : 0);
        }
    }

    private static void timeLeftWithoutOne(Checks checks) {
        checks.says("process, what 7: NONE without one");
        MailProcesses x = new MailProcesses();
        Programs.module(x, 0, "SET 2 50", "RECEIVE 1 2", "RECEIVE 2 4");
        x.spawn(0, 0);
        x.run(1);
        checks.due("process(0, 7)", x.process(0, 7), 50);
        x.send(0, 0, 0);
        x.run(1);
        checks.due("state(0)", x.state(0), 2);
        checks.due("process(0, 7)", x.process(0, 7), -1);
    }

    private static void timeLeftOfAReadyOne(Checks checks) {
        checks.says("process, what 7: NONE if it is READY");
        MailProcesses x = new MailProcesses();
        Programs.module(x, 0, "RECEIVE 1 0", "TELL 0");
        x.spawn(0, 50);
        checks.due("new: process(0, 7)", x.process(0, 7), -1);
        x.run(1);
        x.send(0, 0, 0);
        checks.due("woken by a message: process(0, 7)", x.process(0, 7), -1);
        Programs.module(x, 1, "JUMP 0");
        x.spawn(0, 3);
        x.spawn(1, 0);
        x.run(4);
        checks.due("woken by the TIME: state(1)", x.state(1), 1);
        checks.due("process(1, 7)", x.process(1, 7), -1);
    }

    private static void reason(Checks checks) {
        checks.says("process: of an ENDED one what 8: its reason");
        for (int reason : new int[] {0, 5, -1, LEAST, MOST}) {
            MailProcesses x = new MailProcesses();
            Programs.module(x, 0, "END 0");
            x.spawn(0, reason);
            x.run(1);
            checks.due("process(0, 8)", x.process(0, 8), reason);
        }
        MailProcesses x = oneOfEach();
        x.spawn(0, 0);
        checks.due("alive again: process(2, 8)", x.process(2, 8), -1);
    }

    private static void noneForOthers(Checks checks) {
        checks.says("process: NONE for others: what 8 of who is alive, the rest of who has ENDED, all of who is none");
        MailProcesses x = oneOfEach();
        checks.due("READY: process(0, 8)", x.process(0, 8), -1);
        checks.due("WAITING: process(1, 8)", x.process(1, 8), -1);
        checks.whats("ENDED", x, 2, -1, -1, -1, -1, -1, -1, -1, -1, 5);
        checks.whats("none", x, 3, -1, -1, -1, -1, -1, -1, -1, -1, -1);
        for (int p : NUMBERS) {
            checks.whats("no such number", x, p, -1, -1, -1, -1, -1, -1, -1, -1, -1);
        }
    }

    private static void noneForOtherWhats(Checks checks) {
        checks.says("process: NONE for others: a what that is none");
        MailProcesses x = oneOfEach();
        for (int what : new int[] {-1, 9, 10, 16, LEAST, MOST}) {
            for (int p = -1; p < 5; p++) {
                checks.due("process(" + p + ", " + what + ")", x.process(p, what), -1);
            }
        }
    }

    private static void register(Checks checks) {
        checks.says("register: A register of a process that is not NONE");
        MailProcesses x = new MailProcesses();
        Programs.module(x, 0, "SET 1 11", "SET 2 " + LEAST, "SET 3 " + MOST, "RECEIVE 0 4");
        x.spawn(0, 10);
        x.spawn(0, 20);
        x.run(1);
        checks.registers("WAITING", x, 0, 10, 11, LEAST, MOST);
        checks.registers("READY", x, 1, 20, 0, 0, 0);
    }

    private static void registerOfAnEndedOne(Checks checks) {
        checks.says("register: (of an ENDED one as it was then)");
        MailProcesses x = new MailProcesses();
        Programs.module(x, 0, "SET 1 11", "SET 2 12", "SET 3 13", "END 0");
        x.spawn(0, 10);
        x.run(1);
        checks.due("state(0)", x.state(0), 3);
        checks.registers("ENDED", x, 0, 10, 11, 12, 13);
        x.spawn(0, 7);
        checks.registers("a new one with its number", x, 0, 7, 0, 0, 0);
    }

    private static void registerOtherwise(Checks checks) {
        checks.says("register: 0 otherwise");
        MailProcesses x = new MailProcesses();
        Programs.module(x, 0, "MOVE 1 0", "MOVE 2 0", "MOVE 3 0", "RECEIVE 0 4");
        for (int p = 0; p < 7; p++) {
            x.spawn(0, 50);
        }
        x.run(7);
        checks.registers("none", x, 7, 0, 0, 0, 0);
        for (int p : NUMBERS) {
            checks.registers("no such number", x, p, 0, 0, 0, 0);
        }
        for (int r : new int[] {-1, 4, 5, LEAST, MOST}) {
            checks.due("register(3, " + r + ")", x.register(3, r), 0);
        }
    }

    private static void message(Checks checks) {
        checks.says("message: The tag (what 0) or int (1) of the k-th message (0 first) in a mailbox");
        MailProcesses x = new MailProcesses();
        Programs.module(x, 0, "RECEIVE 0 4");
        for (int p = 0; p < 8; p++) {
            x.spawn(0, 0);
        }
        x.send(0, 3, LEAST);
        x.send(7, 5, MOST);
        x.send(0, 0, -1);
        x.send(7, 1, 0);
        checks.mail("0", x, 0, 3, LEAST, 0, -1);
        checks.mail("7", x, 7, 5, MOST, 1, 0);
        for (int p = 1; p < 7; p++) {
            checks.mail("" + p, x, p);
        }
    }

    private static void messageIfThereIsNone(Checks checks) {
        checks.says("message: 10000000000 if there is none");
        MailProcesses x = new MailProcesses();
        int p = Programs.waiter(x, 0, 1);
        x.spawn(0, 0);
        x.send(p, 3, -9);
        x.send(p, 5, 4);
        for (int what = 0; what < 2; what++) {
            for (int k : new int[] {-1, 2, 11, 12, 13, LEAST, MOST}) {
                checks.due("message(0, " + k + ", " + what + ")", x.message(p, k, what), NO_MESSAGE);
            }
            for (int q : new int[] {1, 2, 7, -1, 8, LEAST, MOST}) {
                checks.due("message(" + q + ", 0, " + what + ")", x.message(q, 0, what), NO_MESSAGE);
            }
        }
        for (int i = 0; i < 12; i++) {
            x.send(p, 3, i);
        }
        checks.due("a full mailbox: message(0, 11, 0)", x.message(p, 11, 0), 3);
        checks.due("message(0, 12, 0)", x.message(p, 12, 0), NO_MESSAGE);
        x.exit(p, 1);
        checks.due("ENDED: message(0, 0, 0)", x.message(p, 0, 0), NO_MESSAGE);
    }

    private static void messageForAnotherWhat(Checks checks) {
        checks.says("message answers 10000000000 also for another what");
        MailProcesses x = new MailProcesses();
        int p = Programs.waiter(x, 0, 1);
        x.send(p, 3, -9);
        for (int what : new int[] {-1, 2, 3, LEAST, MOST}) {
            checks.due("message(0, 0, " + what + ")", x.message(p, 0, what), NO_MESSAGE);
        }
    }

    private static void ready(Checks checks) {
        checks.says("ready: The k-th (0 first) in the queue");
        MailProcesses x = new MailProcesses();
        Programs.module(x, 0, "JUMP 0");
        for (int p = 0; p < 8; p++) {
            x.spawn(0, 0);
        }
        x.run(3);
        checks.queue("all eight", x, 3, 4, 5, 6, 7, 0, 1, 2);
        x.exit(5, 1);
        x.exit(2, 1);
        checks.queue("who has ended stands in it no more", x, 3, 4, 6, 7, 0, 1);
        checks.queue("who waits does not", oneOfEach(), 0);
    }

    private static void readyIfThereIsNone(Checks checks) {
        checks.says("ready: NONE if there is none");
        MailProcesses x = oneOfEach();
        for (int k : new int[] {1, 2, 7, -1, 8, LEAST, MOST}) {
            checks.due("ready(" + k + ")", x.ready(k), -1);
        }
        x.exit(0, 1);
        checks.due("an empty queue: ready(0)", x.ready(0), -1);
    }

    /** 0 tells 1001, 1002 and so on, two or three in a turn. */
    private static MailProcesses teller(int turns) {
        MailProcesses x = new MailProcesses();
        Programs.module(x, 0, "SET 1 1", "ADD 0 1", "TELL 0", "JUMP 1");
        x.spawn(0, 1000);
        x.run(turns);
        return x;
    }

    private static void told(Checks checks) {
        checks.says("told: The int told k before the latest (k 0..15)");
        MailProcesses x = teller(1);
        checks.told("two", x, 1001, 1002);
    }

    private static void toldIfThereIsNone(Checks checks) {
        checks.says("told: 0 if there is none");
        MailProcesses x = teller(1);
        for (int k : new int[] {2, 3, 15, 16, -1, LEAST, MOST}) {
            checks.due("told(" + k + ")", x.told(k), 0);
        }
        MailProcesses y = new MailProcesses();
        for (int k = -1; k <= 16; k++) {
            checks.due("nothing was told: told(" + k + ")", y.told(k), 0);
        }
    }

    private static void toldAfterMoreThanSixteen(Checks checks) {
        checks.says("told: (k 0..15), and 0 for another k though more were told");
        for (int turns : new int[] {5, 6, 7, 12, 50}) {
            MailProcesses x = teller(turns);
            int count = x.count(1);
            for (int k = 0; k < 16; k++) {
                checks.due(count + " were told: told(" + k + ")", x.told(k), k < count ? 1000 + count - k : 0);
            }
            for (int k : new int[] {16, 17, 32, -1, -16, LEAST, MOST}) {
                checks.due(count + " were told: told(" + k + ")", x.told(k), 0);
            }
        }
    }

    private static void counts(Checks checks) {
        checks.says("count, what 0: the TIME; 1: how many ints were told; 2: turns; 3: processes made; 5: endings");
        MailProcesses x = new MailProcesses();
        Programs.module(x, 0, "TELL 0", "SET 2 7", "SPAWN 1 0", "TELL 1", "TELL 1");
        Programs.module(x, 1, "RECEIVE 0 4");
        x.spawn(0, 0);
        x.spawn(1, 0);
        x.run(9);
        x.exit(2, 3);
        int[] counts = {5 + 1 + 1, 3, 3, 3, 0, 2};
        for (int what = 0; what < counts.length; what++) {
            checks.due("count(" + what + ")", x.count(what), counts[what]);
        }
        checks.due("more than are kept: count(1)", teller(50).count(1), 133);
    }

    private static void countOfLostMessages(Checks checks) {
        checks.says("count, what 4: messages lost (of SENDs also those to what is not alive)");
        MailProcesses x = new MailProcesses();
        Programs.module(x, 0, "SET 1 7", "SEND 1 0", "SEND 2 0", "RECEIVE 0 4");
        x.spawn(0, 0);
        x.run(1);
        checks.due("one to 7, one to itself: count(4)", x.count(4), 1);
        checks.mail("itself", x, 0, 0, 0);
        for (int i = 0; i < 13; i++) {
            x.send(0, 0, i);
        }
        checks.due("two of them to a full one: count(4)", x.count(4), 3);
    }

    private static void countOfOthers(Checks checks) {
        checks.says("count: NONE for others");
        MailProcesses x = oneOfEach();
        for (int what : new int[] {-1, 6, 7, 8, LEAST, MOST}) {
            checks.due("count(" + what + ")", x.count(what), -1);
        }
    }

    private static void readingChangesNothing(Checks checks) {
        checks.says("state, process, register, message, ready, told and count only answer");
        MailProcesses x = oneOfEach();
        x.send(1, 2, 3);
        Programs.draft(x, "TELL 0");
        List<String> before = Snapshot.of(x);
        checks.unchanged("once more", x, before);
        checks.unchanged("and once more", x, before);
        checks.due("the draft: wipe()", x.wipe(), 1);
    }
}
