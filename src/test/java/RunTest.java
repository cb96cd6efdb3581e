/** Promise 9: turns. */
public final class RunTest {
    public static void main(String[] args) {
        Checks checks = new Checks();
        wrongInputs(checks);
        eightInstructions(checks);
        eighthOneLeadsNowhere(checks);
        eighthOneWaits(checks);
        backBehindThoseItMadeOrWoke(checks);
        timeLeapsToTheLeastEnd(checks);
        wokenByEndsThenNumbers(checks);
        allEightAtOnce(checks);
        noTurnChangesNothing(checks);
        wokenBehindWhatIsReady(checks);
        checks.end();
    }

    private static void wrongInputs(Checks checks) {
        MailProcesses x = new MailProcesses();
        Programs.module(x, 0, "JUMP 0");
        x.spawn(0, 0);
        for (int n : new int[] {0, -1, 101, Integer.MIN_VALUE, Integer.MAX_VALUE}) {
            checks.due("run(" + n + ")", x.run(n), -1);
        }
        checks.due("count(0)", x.count(0), 0);
        checks.due("count(2)", x.count(2), 0);
        checks.due("run(1)", x.run(1), 1);
        checks.due("run(100)", x.run(100), 100);
        checks.due("count(0)", x.count(0), 808);
        checks.due("count(2)", x.count(2), 101);
    }

    private static void eightInstructions(Checks checks) {
        MailProcesses x = new MailProcesses();
        Programs.module(x, 0, "SET 1 1", "ADD 0 1", "TELL 0", "JUMP 1");
        x.spawn(0, 0);
        x.spawn(0, 100);
        checks.due("run(1)", x.run(1), 1);
        checks.due("count(0)", x.count(0), 8);
        checks.due("process(0, 0)", x.process(0, 0), 2);
        checks.due("state(0)", x.state(0), 1);
        checks.queue("to the back", x, 1, 0);
        x.run(3);
        checks.told("in turns", x, 1, 2, 101, 102, 3, 4, 5, 103, 104, 105);
        checks.queue("two each", x, 0, 1);
    }

    private static void eighthOneLeadsNowhere(Checks checks) {
        MailProcesses x = new MailProcesses();
        Programs.module(x, 0, "SET 1 1", "SET 1 2", "SET 1 3", "SET 1 4", "SET 1 5", "SET 1 6", "SET 1 7", "SET 1 8");
        x.spawn(0, 0);
        checks.due("run(1)", x.run(1), 1);
        checks.due("at once, in the same turn: state(0)", x.state(0), 3);
        checks.due("process(0, 8)", x.process(0, 8), 0);
        checks.due("count(0)", x.count(0), 8);
        checks.due("run(1)", x.run(1), 0);
        Programs.module(x, 1, "SET 1 1", "SET 1 2", "SET 1 3", "SET 1 4", "SET 1 5", "SET 1 6", "SET 1 7", "SET 1 8", "SET 1 9");
        x.spawn(1, 0);
        checks.due("run(1) of nine", x.run(1), 1);
        checks.due("state(0)", x.state(0), 1);
        checks.due("process(0, 0)", x.process(0, 0), 8);
        checks.due("run(9)", x.run(9), 1);
        checks.due("register(0, 1)", x.register(0, 1), 9);
    }

    private static void eighthOneWaits(Checks checks) {
        MailProcesses x = new MailProcesses();
        Programs.module(x, 0, "SET 1 1", "SET 1 2", "SET 1 3", "SET 1 4", "SET 1 5", "SET 1 6", "SET 1 7", "RECEIVE 1 4");
        x.spawn(0, 0);
        x.run(1);
        checks.due("state(0)", x.state(0), 2);
        checks.due("process(0, 0)", x.process(0, 0), 7);
        checks.queue("it stands in none", x);
    }

    private static void backBehindThoseItMadeOrWoke(Checks checks) {
        MailProcesses x = new MailProcesses();
        int p = Programs.waiter(x, 0, 1);
        Programs.module(x, 1, "SPAWN 2 0", "SEND 2 0", "SPAWN 2 0", "JUMP 3");
        Programs.module(x, 2, "RECEIVE 0 4");
        x.spawn(1, 0);
        x.spawn(2, 0);
        x.run(1);
        checks.queue("2 stood there; 3 was made, 0 woken, 4 made; 1 comes behind", x, 2, 3, p, 4, 1);
    }

    private static void timeLeapsToTheLeastEnd(Checks checks) {
        MailProcesses x = new MailProcesses();
        Programs.module(x, 0, "RECEIVE 0 0", "SELF 3", "TELL 3");
        x.spawn(0, 500);
        x.spawn(0, 100);
        x.spawn(0, 300);
        checks.due("run(3)", x.run(3), 3);
        checks.due("count(0)", x.count(0), 3);
        checks.due("run(1)", x.run(1), 1);
        checks.due("102, then two instructions: count(0)", x.count(0), 104);
        checks.due("run(1)", x.run(1), 1);
        checks.due("count(0)", x.count(0), 305);
        checks.due("run(9)", x.run(9), 1);
        checks.due("count(0)", x.count(0), 503);
        checks.told("by their ends", x, 1, 2, 0);
        checks.due("run(9)", x.run(9), 0);
        checks.due("count(2)", x.count(2), 6);
    }

    private static void wokenByEndsThenNumbers(Checks checks) {
        MailProcesses x = new MailProcesses();
        Programs.module(x, 0, "RECEIVE 0 0", "SELF 3", "TELL 3");
        Programs.module(x, 1, "JUMP 0");
        // Each RECEIVE is one instruction, so the ends are 1 + 9, 2 + 8, 3 + 5, 4 + 6 and 5 + 1.
        int[] limits = {9, 8, 5, 6, 1};
        for (int limit : limits) {
            x.spawn(0, limit);
        }
        x.run(5);
        x.spawn(1, 0);
        checks.due("run(1)", x.run(1), 1);
        checks.due("count(0)", x.count(0), 13);
        checks.queue("none is woken behind a turn", x, 5);
        x.run(1);
        checks.queue("6, 8, then the three with 10 by numbers", x, 4, 2, 0, 1, 3, 5);
    }

    private static void allEightAtOnce(Checks checks) {
        MailProcesses x = new MailProcesses();
        Programs.module(x, 0, "RECEIVE 0 0", "JUMP 1");
        for (int p = 0; p < 8; p++) {
            x.spawn(0, 100 - p);
        }
        x.run(8);
        x.run(1);
        checks.due("count(0)", x.count(0), 101 + 8);
        checks.queue("by numbers, and the first one has had its turn", x, 1, 2, 3, 4, 5, 6, 7, 0);
    }

    private static void noTurnChangesNothing(Checks checks) {
        MailProcesses x = new MailProcesses();
        int p = Programs.waiter(x, 0, 1);
        checks.due("run(100)", x.run(100), 0);
        checks.due("count(0)", x.count(0), 1);
        checks.due("count(2)", x.count(2), 1);
        checks.due("state(0)", x.state(p), 2);
    }

    private static void wokenBehindWhatIsReady(Checks checks) {
        MailProcesses x = new MailProcesses();
        Programs.module(x, 0, "RECEIVE 0 0", "RECEIVE 0 4");
        Programs.module(x, 1, "JUMP 0");
        x.spawn(0, 1);
        x.run(1);
        x.spawn(1, 0);
        x.spawn(1, 0);
        x.run(1);
        checks.due("end 2, TIME 1 at the start of that turn: state(0)", x.state(0), 2);
        x.run(1);
        checks.queue("behind 2 and 1, who stood there", x, 1, 0, 2);
    }
}
