/** The instructions that touch no other process, and where each one leads. */
public final class InstructionTest {
    private static final int LEAST = Integer.MIN_VALUE;
    private static final int MOST = Integer.MAX_VALUE;

    public static void main(String[] args) {
        Checks checks = new Checks();
        registersAndTheirWrapping(checks);
        sameRegisterTwice(checks);
        jumpAndZero(checks);
        selfIsTheOwnNumber(checks);
        callStartsAnotherModule(checks);
        placesWithoutAnInstruction(checks);
        checks.end();
    }

    private static void registersAndTheirWrapping(Checks checks) {
        MailProcesses x = new MailProcesses();
        Programs.module(x, 0,
            "SET 0 " + MOST, "SET 1 1", "MOVE 2 0", "ADD 2 1", "TELL 2",
            "SET 3 " + LEAST, "SUB 3 1", "TELL 3", "MOVE 1 3", "TELL 1", "SUB 0 1", "TELL 0");
        x.spawn(0, 0);
        x.run(9);
        checks.told("all wrap", x, LEAST, MOST, MOST, 0);
        int[] registers = {0, MOST, LEAST, MOST};
        for (int r = 0; r < 4; r++) {
            checks.due("register(0, " + r + ")", x.register(0, r), registers[r]);
        }
        checks.due("count(0)", x.count(0), 12);
    }

    private static void sameRegisterTwice(Checks checks) {
        MailProcesses x = new MailProcesses();
        Programs.module(x, 0, "ADD 0 0", "TELL 0", "SUB 0 0", "TELL 0", "SET 3 4", "MOVE 3 3", "TELL 3");
        x.spawn(0, 21);
        x.run(1);
        checks.told("Ra is Rb", x, 42, 0, 4);
    }

    private static void jumpAndZero(Checks checks) {
        MailProcesses x = new MailProcesses();
        // Counts register 0 down to 0 and tells each.
        Programs.module(x, 0, "SET 1 1", "ZERO 0 5", "TELL 0", "SUB 0 1", "JUMP 1 99", "SET 2 7", "TELL 2");
        x.spawn(0, 3);
        checks.due("run(9)", x.run(9), 2);
        checks.told("down", x, 3, 2, 1, 7);
        checks.due("count(0)", x.count(0), 1 + 3 * 4 + 1 + 2);
        Programs.module(x, 1, "ZERO 3 2", "TELL 0", "ZERO 0 1", "TELL 0");
        x.spawn(1, -1);
        x.run(1);
        checks.told("not for what is not 0", x, 3, 2, 1, 7, -1);
    }

    private static void selfIsTheOwnNumber(Checks checks) {
        MailProcesses x = new MailProcesses();
        Programs.module(x, 0, "SELF 3", "TELL 3");
        for (int p = 0; p < 8; p++) {
            x.spawn(0, 9);
        }
        x.run(8);
        checks.told("each", x, 0, 1, 2, 3, 4, 5, 6, 7);
    }

    private static void callStartsAnotherModule(Checks checks) {
        MailProcesses x = new MailProcesses();
        Programs.module(x, 0, "SET 2 6", "CALL 3", "TELL 0");
        Programs.module(x, 3, "TELL 2", "RECEIVE 0 4");
        x.spawn(0, 0);
        x.run(1);
        checks.told("registers stay", x, 6);
        checks.due("process(0, 1)", x.process(0, 1), 3);
        checks.due("process(0, 0)", x.process(0, 0), 1);
        checks.due("process(0, 2)", x.process(0, 2), 0);
        checks.due("count(3)", x.count(3), 1);
    }

    private static void placesWithoutAnInstruction(Checks checks) {
        String[][] programs = {{"SET 1 1"}, {"JUMP 1"}, {"JUMP 23"}, {"ZERO 0 23", "TELL 0"}, {"ZERO 1 1"}};
        for (String[] program : programs) {
            MailProcesses x = new MailProcesses();
            Programs.module(x, 0, program);
            x.spawn(0, 0);
            checks.due(program[0] + ": run(9)", x.run(9), 1);
            checks.due(program[0] + ": state(0)", x.state(0), 3);
            checks.due(program[0] + ": process(0, 8)", x.process(0, 8), 0);
            checks.due(program[0] + ": count(0)", x.count(0), 1);
            checks.due(program[0] + ": count(1)", x.count(1), 0);
        }
    }
}
