import java.util.List;

/** Promise 9: turns, and what TIME is. */
public final class RunTest {
    public static void main(String[] args) {
        Checks checks = new Checks();
        howManyThereWere(checks);
        upToN(checks);
        anotherN(checks);
        timeAboveTheLimit(checks);
        timeGrows(checks);
        eightInstructions(checks);
        untilItWaits(checks);
        untilItEnds(checks);
        readyStill(checks);
        inNoQueue(checks);
        eighthOneLeadsNowhere(checks);
        turnThatOnlyEnds(checks);
        wokenFirst(checks);
        wokenAtTheTimeOrBefore(checks);
        wokenByEnds(checks);
        wokenByNumbers(checks);
        timeBecomesTheLeastEnd(checks);
        likewise(checks);
        noTurn(checks);
        allEightAtOnce(checks);
        checks.end();
    }

    private static MailProcesses looping() {
        MailProcesses x = new MailProcesses();
        Programs.module(x, 0, "JUMP 0");
        x.spawn(0, 0);
        return x;
    }

    private static void howManyThereWere(Checks checks) {
        checks.says("run: Up to n turns (1..100): how many there were");
        MailProcesses x = looping();
        checks.due("run(1)", x.run(1), 1);
        checks.due("run(2)", x.run(2), 2);
        checks.due("run(99)", x.run(99), 99);
        checks.due("run(100)", x.run(100), 100);
        checks.due("count(2)", x.count(2), 202);
        checks.due("count(0)", x.count(0), 8 * 202);
    }

    private static void upToN(Checks checks) {
        checks.says("run: Up to n turns: fewer, where there is no turn any more");
        MailProcesses x = new MailProcesses();
        Programs.module(x, 0, "TELL 0");
        for (int p = 0; p < 3; p++) {
            x.spawn(0, p);
        }
        checks.due("run(2)", x.run(2), 2);
        checks.due("run(2)", x.run(2), 1);
        checks.due("run(2)", x.run(2), 0);
        checks.due("count(2)", x.count(2), 3);
    }

    private static void anotherN(Checks checks) {
        checks.says("run: NONE, and nothing changes, for another n");
        MailProcesses x = looping();
        Programs.module(x, 1, "RECEIVE 0 0", "TELL 0");
        x.spawn(1, 1);
        x.run(3);
        checks.due("one whose end is over is there: process(1, 7)", x.process(1, 7), 0);
        List<String> before = Snapshot.of(x);
        for (int n : new int[] {0, -1, -100, 101, 102, 256, Integer.MIN_VALUE, Integer.MAX_VALUE}) {
            checks.due("run(" + n + ")", x.run(n), -1);
        }
        checks.unchanged("run", x, before);
    }

    /**
     * No 512 calls come near this TIME, and what later calls answer is free; so this test alone goes beyond them, as
     * the sentence could not be held against anything otherwise.
     */
    private static void timeAboveTheLimit(Checks checks) {
        checks.says("run: NONE, and nothing changes, if the TIME is above 1000000000");
        MailProcesses x = new MailProcesses();
        Programs.module(x, 0, "SET 0 1000", "RECEIVE 0 0", "JUMP 0");
        Programs.module(x, 1, "RECEIVE 0 0", "RECEIVE 0 4");
        Programs.module(x, 2, "TELL 0");
        x.spawn(0, 0);
        // The first turn takes 2, each one behind it 1000 and three instructions.
        x.run(1);
        for (int i = 0; i < 9970; i++) {
            x.run(100);
        }
        x.run(8);
        checks.due("count(0)", x.count(0), 2 + 997008 * 1003);
        x.exit(0, 1);
        int left = 1000000000 - x.count(0);
        x.spawn(1, left - 2);
        x.run(2);
        checks.due("count(0)", x.count(0), 1000000000);
        x.spawn(2, 5);
        checks.due("at the limit: run(1)", x.run(1), 1);
        checks.due("count(0)", x.count(0), 1000000001);
        x.spawn(2, 6);
        List<String> before = Snapshot.of(x);
        checks.due("above it: run(1)", x.run(1), -1);
        checks.due("above it: run(100)", x.run(100), -1);
        checks.unchanged("run", x, before);
    }

    private static void timeGrows(Checks checks) {
        checks.says("TIME, 0 at first, grows by 1 with each instruction done");
        MailProcesses x = new MailProcesses();
        checks.due("count(0)", x.count(0), 0);
        Programs.module(x, 0,
            "SET 1 7", "ADD 2 1", "SUB 2 1", "MOVE 3 2", "ZERO 1 9", "SEND 1 0", "SPAWN 3 0", "SELF 3",
            "LINK 3", "UNLINK 3", "MONITOR 3", "EXIT 1 0", "TRAP 0 0", "TELL 0", "RECEIVE 1 2", "JUMP 16",
            "CALL 0");
        x.spawn(0, 0);
        int[] times = {8, 16, 24, 32};
        for (int time : times) {
            x.run(1);
            checks.due("count(0)", x.count(0), time);
        }
        x.code(0, 0, 0);
        x.load(1);
        x.exit(0, 1);
        x.state(0);
        checks.due("no call but run does any: count(0)", x.count(0), 32);
    }

    private static void eightInstructions(Checks checks) {
        checks.says("Then the first of the queue does up to 8 instructions");
        MailProcesses x = new MailProcesses();
        Programs.module(x, 0, "SET 1 1", "ADD 0 1", "TELL 0", "JUMP 1");
        x.spawn(0, 0);
        x.spawn(0, 100);
        checks.due("run(1)", x.run(1), 1);
        checks.due("count(0)", x.count(0), 8);
        checks.due("process(0, 0)", x.process(0, 0), 2);
        checks.due("register(1, 0)", x.register(1, 0), 100);
        x.run(3);
        checks.told("in turns", x, 1, 2, 101, 102, 3, 4, 5, 103, 104, 105);
    }

    private static void untilItWaits(Checks checks) {
        checks.says("up to 8 instructions, until it waits");
        for (int before : new int[] {0, 3, 7}) {
            MailProcesses x = new MailProcesses();
            for (int i = 0; i < before; i++) {
                Programs.draft(x, "SET 1 1");
            }
            Programs.module(x, 0, "RECEIVE 1 4", "TELL 0");
            x.spawn(0, 0);
            checks.due("run(9)", x.run(9), 1);
            checks.due("state(0)", x.state(0), 2);
            checks.due("count(0)", x.count(0), before + 1);
            checks.due("process(0, 0)", x.process(0, 0), before);
            checks.queue("it stands in none", x);
        }
    }

    private static void untilItEnds(Checks checks) {
        checks.says("up to 8 instructions, until it ends");
        for (int before : new int[] {0, 3, 7}) {
            MailProcesses x = new MailProcesses();
            for (int i = 0; i < before; i++) {
                Programs.draft(x, "SET 1 1");
            }
            Programs.module(x, 0, "END 0", "TELL 0");
            x.spawn(0, 3);
            checks.due("run(9)", x.run(9), 1);
            checks.due("process(0, 8)", x.process(0, 8), 3);
            checks.due("count(0)", x.count(0), before + 1);
            checks.queue("it stands in none", x);
        }
    }

    private static void readyStill(Checks checks) {
        checks.says("if it is READY still, it goes to the back");
        MailProcesses x = looping();
        x.spawn(0, 0);
        x.spawn(0, 0);
        checks.queue("before", x, 0, 1, 2);
        x.run(1);
        checks.queue("one turn", x, 1, 2, 0);
        x.run(4);
        checks.queue("five", x, 2, 0, 1);
    }

    private static void inNoQueue(Checks checks) {
        checks.says("the process whose turn it is stands in no queue, and goes to the back behind those it made or woke");
        MailProcesses x = new MailProcesses();
        int p = Programs.waiter(x, 0, 1);
        Programs.module(x, 1, "SPAWN 2 0", "SEND 2 0", "SPAWN 2 0", "JUMP 3");
        Programs.module(x, 2, "RECEIVE 0 4");
        x.spawn(1, 0);
        x.spawn(2, 0);
        x.run(1);
        checks.queue("2 stood there; 3 was made, 0 woken, 4 made; 1 comes behind", x, 2, 3, p, 4, 1);
    }

    private static void eighthOneLeadsNowhere(Checks checks) {
        checks.says("Where an instruction, also the eighth one of a turn, leads to a place without an instruction, the process ends with reason 0 at once behind it");
        MailProcesses x = new MailProcesses();
        Programs.module(x, 0, "SET 1 1", "SET 1 2", "SET 1 3", "SET 1 4", "SET 1 5", "SET 1 6", "SET 1 7", "SET 1 8");
        x.spawn(0, 0);
        checks.due("run(1)", x.run(1), 1);
        checks.due("state(0)", x.state(0), 3);
        checks.due("process(0, 8)", x.process(0, 8), 0);
        checks.due("the TIME does not grow by it: count(0)", x.count(0), 8);
        checks.due("run(1)", x.run(1), 0);
        Programs.module(x, 1, "SET 1 1", "SET 1 2", "SET 1 3", "SET 1 4", "SET 1 5", "SET 1 6", "SET 1 7", "SET 1 8", "SET 1 9");
        x.spawn(1, 0);
        checks.due("run(1) of nine", x.run(1), 1);
        checks.due("state(0)", x.state(0), 1);
        checks.due("process(0, 0)", x.process(0, 0), 8);
        checks.due("run(9)", x.run(9), 1);
        checks.due("register(0, 1)", x.register(0, 1), 9);
        checks.due("count(0)", x.count(0), 17);
    }

    private static void turnThatOnlyEnds(Checks checks) {
        checks.says("A turn in which a process only ends, since behind its RECEIVE there is nothing, is a turn");
        MailProcesses x = new MailProcesses();
        Programs.module(x, 0, "RECEIVE 1 0");
        Programs.module(x, 1, "LINK 1", "MONITOR 1", "RECEIVE 128 4", "TELL 0");
        x.spawn(0, 50);
        x.spawn(1, 0);
        x.run(2);
        checks.due("count(0)", x.count(0), 4);
        checks.due("run(1)", x.run(1), 1);
        checks.due("count(2)", x.count(2), 3);
        checks.due("the TIME is the end, and grows no more: count(0)", x.count(0), 51);
        checks.states("0 has ended", x, 3, 1);
        checks.due("process(0, 8)", x.process(0, 8), 0);
        x.run(1);
        checks.told("its ending was told as any", x, 0);
    }

    private static void wokenFirst(Checks checks) {
        checks.says("A TURN: first all that wait until the TIME or before are READY, at the back of the queue");
        MailProcesses x = new MailProcesses();
        Programs.module(x, 0, "RECEIVE 0 0", "RECEIVE 0 4");
        Programs.module(x, 1, "JUMP 0");
        x.spawn(0, 1);
        x.run(1);
        x.spawn(1, 0);
        x.spawn(1, 0);
        x.run(1);
        checks.due("end 2, TIME 1 at the start of that turn: state(0)", x.state(0), 2);
        checks.due("none is woken behind a turn: process(0, 7)", x.process(0, 7), 0);
        x.run(1);
        checks.queue("behind 2 and 1, who stood there, before 2 comes back", x, 1, 0, 2);
        checks.due("register(0, 1)", x.register(0, 1), -1);
    }

    private static void wokenAtTheTimeOrBefore(Checks checks) {
        checks.says("all that wait until the TIME or before, and none that waits longer");
        // The RECEIVE is the first instruction, a turn of eight comes behind it: TIME 9 at the next one.
        int[] limits = {7, 8, 9};
        for (int limit : limits) {
            MailProcesses x = new MailProcesses();
            Programs.module(x, 0, "RECEIVE 0 0", "RECEIVE 0 4");
            Programs.module(x, 1, "JUMP 0");
            x.spawn(0, limit);
            x.spawn(1, 0);
            x.run(2);
            checks.due("count(0)", x.count(0), 9);
            checks.due("process(0, 7)", x.process(0, 7), limit == 9 ? 1 : 0);
            x.run(1);
            checks.due("end " + (limit + 1) + ": state(0)", x.state(0), limit == 9 ? 2 : 1);
            checks.due("process(0, 0)", x.process(0, 0), limit == 9 ? 0 : 1);
        }
    }

    private static void wokenByEnds(Checks checks) {
        checks.says("by their ends");
        MailProcesses x = new MailProcesses();
        Programs.module(x, 0, "RECEIVE 0 0", "SELF 3", "TELL 3");
        Programs.module(x, 1, "JUMP 0");
        // The ends are 1 + 10, 2 + 7, 3 + 3, 4 + 4; TIME is 4 before the first turn of 4, and 12 before the second.
        for (int limit : new int[] {10, 7, 3, 4}) {
            x.spawn(0, limit);
        }
        x.run(4);
        x.spawn(1, 0);
        x.run(2);
        checks.queue("6, 8, 9, 11", x, 2, 3, 1, 0, 4);
    }

    private static void wokenByNumbers(Checks checks) {
        checks.says("of equal ones by numbers");
        MailProcesses x = new MailProcesses();
        Programs.module(x, 0, "RECEIVE 1 4", "RECEIVE 0 0", "SELF 3", "TELL 3");
        Programs.module(x, 1, "JUMP 0");
        for (int p = 0; p < 4; p++) {
            x.spawn(0, 0);
        }
        x.run(4);
        // They come to their second RECEIVE in the order 3, 1, 0, 2, two instructions apart, and the ends are all 14.
        int[] order = {3, 1, 0, 2};
        int[] limits = {8, 6, 4, 2};
        for (int i = 0; i < 4; i++) {
            x.send(order[i], 0, limits[i]);
        }
        x.run(4);
        checks.due("count(0)", x.count(0), 12);
        for (int p = 0; p < 4; p++) {
            checks.due("process(" + p + ", 7)", x.process(p, 7), 2);
        }
        x.spawn(1, 0);
        x.run(2);
        checks.queue("all at 14", x, 0, 1, 2, 3, 4);
    }

    private static void timeBecomesTheLeastEnd(Checks checks) {
        checks.says("If the queue is empty then, the TIME becomes the least end of those that wait with one");
        MailProcesses x = new MailProcesses();
        Programs.module(x, 0, "RECEIVE 0 0", "SELF 3", "TELL 3");
        Programs.module(x, 1, "RECEIVE 0 4");
        x.spawn(0, 500);
        x.spawn(0, 100);
        x.spawn(0, 300);
        x.spawn(1, 0);
        checks.due("run(4)", x.run(4), 4);
        checks.due("count(0)", x.count(0), 4);
        checks.due("run(1)", x.run(1), 1);
        checks.due("102, then two instructions: count(0)", x.count(0), 104);
        checks.due("process(2, 7)", x.process(2, 7), 199);
        checks.due("run(1)", x.run(1), 1);
        checks.due("count(0)", x.count(0), 305);
        checks.due("run(9)", x.run(9), 1);
        checks.due("count(0)", x.count(0), 503);
        checks.told("by their ends", x, 1, 2, 0);
        checks.due("count(2)", x.count(2), 7);
    }

    private static void likewise(Checks checks) {
        checks.says("and likewise: all that wait until that TIME are READY, by numbers");
        MailProcesses x = new MailProcesses();
        Programs.module(x, 0, "RECEIVE 0 0", "JUMP 1");
        x.spawn(0, 10);
        x.spawn(0, 9);
        x.spawn(0, 9);
        x.run(3);
        x.run(1);
        checks.due("count(0)", x.count(0), 11 + 8);
        checks.queue("0 and 1 at 11, and 0 has had its turn", x, 1, 0);
        checks.due("2 waits still, its end being over: state(2)", x.state(2), 2);
        checks.due("process(2, 7)", x.process(2, 7), 0);
        checks.due("register(1, 1)", x.register(1, 1), -1);
        checks.due("process(1, 0)", x.process(1, 0), 1);
    }

    private static void noTurn(Checks checks) {
        checks.says("if there is none, there is no turn");
        MailProcesses x = new MailProcesses();
        Programs.waiter(x, 0, 1);
        List<String> before = Snapshot.of(x);
        checks.due("run(100)", x.run(100), 0);
        checks.unchanged("run(100)", x, before);
        MailProcesses y = new MailProcesses();
        checks.due("no process at all: run(1)", y.run(1), 0);
        checks.due("count(2)", y.count(2), 0);
    }

    private static void allEightAtOnce(Checks checks) {
        checks.says("all that wait until the TIME are READY: all eight");
        MailProcesses x = new MailProcesses();
        Programs.module(x, 0, "RECEIVE 0 0", "JUMP 1");
        for (int p = 0; p < 8; p++) {
            x.spawn(0, 100 - p);
        }
        x.run(8);
        x.run(1);
        checks.due("count(0)", x.count(0), 101 + 8);
        checks.queue("by numbers, and the first one has had its turn", x, 1, 2, 3, 4, 5, 6, 7, 0);
    }
}
