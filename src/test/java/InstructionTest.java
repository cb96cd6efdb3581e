/** The instructions that touch no other process, and where each one leads. */
public final class InstructionTest {
    private static final int LEAST = Integer.MIN_VALUE;
    private static final int MOST = Integer.MAX_VALUE;

    public static void main(String[] args) {
        Checks checks = new Checks();
        set(checks);
        add(checks);
        sub(checks);
        move(checks);
        sameRegisterTwice(checks);
        jump(checks);
        zero(checks);
        self(checks);
        end(checks);
        trap(checks);
        call(checks);
        callWithoutAVersion(checks);
        tell(checks);
        whereThereIsNone(checks);
        lastOfTwentyFour(checks);
        atOnceInTheSameTurn(checks);
        registersAreApart(checks);
        checks.end();
    }

    private static MailProcesses done(int v, String... rows) {
        MailProcesses x = new MailProcesses();
        Programs.module(x, 0, rows);
        x.spawn(0, v);
        x.run(10);
        return x;
    }

    /** The rows are done once each, one after the other, and leave these registers. */
    private static void leaves(Checks checks, String where, MailProcesses x, int rows, int... registers) {
        checks.registers(where, x, 0, registers);
        checks.due(where + ": each goes to the next one: count(0)", x.count(0), rows);
        checks.due(where + ": state(0)", x.state(0), 3);
    }

    private static void set(Checks checks) {
        checks.says("0 SET Ra to b");
        for (int b : new int[] {LEAST, -1, 0, MOST}) {
            leaves(checks, "SET 0 " + b, done(5, "SET 0 " + b), 1, b, 0, 0, 0);
            leaves(checks, "SET 1 " + b, done(5, "SET 1 " + b), 1, 5, b, 0, 0);
            leaves(checks, "SET 2 " + b, done(5, "SET 2 " + b), 1, 5, 0, b, 0);
            leaves(checks, "SET 3 " + b, done(5, "SET 3 " + b), 1, 5, 0, 0, b);
        }
    }

    private static void add(Checks checks) {
        checks.says("1 ADD Rb to Ra (all wrap)");
        leaves(checks, "ordinary", done(40, "SET 3 2", "ADD 0 3"), 2, 42, 0, 0, 2);
        leaves(checks, "above the greatest", done(MOST, "SET 1 1", "ADD 0 1"), 2, LEAST, 1, 0, 0);
        leaves(checks, "below the least", done(LEAST, "SET 2 -1", "ADD 0 2"), 2, MOST, 0, -1, 0);
    }

    private static void sub(Checks checks) {
        checks.says("2 SUB Rb from Ra (all wrap)");
        leaves(checks, "ordinary", done(40, "SET 3 2", "SUB 0 3"), 2, 38, 0, 0, 2);
        leaves(checks, "below the least", done(LEAST, "SET 1 1", "SUB 0 1"), 2, MOST, 1, 0, 0);
        leaves(checks, "above the greatest", done(MOST, "SET 2 -1", "SUB 0 2"), 2, LEAST, 0, -1, 0);
        leaves(checks, "0 - least", done(0, "SET 2 " + LEAST, "SUB 0 2"), 2, LEAST, 0, LEAST, 0);
    }

    private static void move(Checks checks) {
        checks.says("3 MOVE Rb to Ra");
        leaves(checks, "MOVE 2 0", done(LEAST, "SET 2 3", "MOVE 2 0"), 2, LEAST, 0, LEAST, 0);
        leaves(checks, "MOVE 0 3", done(1, "SET 3 3", "MOVE 0 3"), 2, 3, 0, 0, 3);
        leaves(checks, "MOVE 3 1", done(1, "SET 1 8", "MOVE 3 1"), 2, 1, 8, 0, 8);
    }

    private static void sameRegisterTwice(Checks checks) {
        checks.says("Ra, Rb are the registers a and b, also where that is one");
        leaves(checks, "ADD 0 0", done(21, "ADD 0 0"), 1, 42, 0, 0, 0);
        leaves(checks, "ADD 0 0 wraps", done(MOST, "ADD 0 0"), 1, -2, 0, 0, 0);
        leaves(checks, "SUB 0 0", done(21, "SUB 0 0"), 1, 0, 0, 0, 0);
        leaves(checks, "MOVE 0 0", done(21, "MOVE 0 0"), 1, 21, 0, 0, 0);
    }

    private static void jump(Checks checks) {
        checks.says("4 JUMP to instruction a");
        checks.told("on", done(0, "JUMP 2", "TELL 0", "SET 1 4", "TELL 1"), 4);
        MailProcesses x = new MailProcesses();
        Programs.module(x, 0, "JUMP 0 99");
        x.spawn(0, 0);
        checks.due("back to 0, for ever: run(100)", x.run(100), 100);
        checks.due("count(0)", x.count(0), 800);
        checks.due("process(0, 0)", x.process(0, 0), 0);
    }

    private static void zero(Checks checks) {
        checks.says("5 ZERO: to instruction b if Ra is 0");
        for (int v : new int[] {0, 1, -1, LEAST, MOST}) {
            MailProcesses x = done(v, "ZERO 0 2", "TELL 0", "SET 1 77", "TELL 1");
            if (v == 0) {
                checks.told("0", x, 77);
            } else {
                checks.told("" + v, x, v, 77);
            }
        }
        checks.told("back", done(1, "TELL 0", "SET 1 1", "SUB 0 1", "ZERO 0 0", "END 0"), 1, 0);
    }

    private static void self(Checks checks) {
        checks.says("9 SELF: Ra gets the own number");
        MailProcesses x = new MailProcesses();
        Programs.module(x, 0, "SELF 3", "TELL 3");
        for (int p = 0; p < 8; p++) {
            x.spawn(0, 9);
        }
        x.run(8);
        checks.told("each", x, 0, 1, 2, 3, 4, 5, 6, 7);
    }

    private static void end(Checks checks) {
        checks.says("14 END with reason Ra");
        for (int reason : new int[] {0, 3, 9, -1, LEAST, MOST}) {
            MailProcesses x = done(reason, "SET 3 5", "MOVE 2 0", "END 2", "TELL 0");
            checks.due("state(0)", x.state(0), 3);
            checks.due("END " + reason + ": process(0, 8)", x.process(0, 8), reason);
            checks.due("an instruction as any: count(0)", x.count(0), 3);
            checks.due("nothing is done behind it: count(1)", x.count(1), 0);
            checks.due("count(5)", x.count(5), 1);
        }
    }

    private static void trap(Checks checks) {
        checks.says("15 TRAP: traps from now on if b is 1, or not");
        MailProcesses x = new MailProcesses();
        Programs.module(x, 0, "TRAP 0 1", "RECEIVE 1 4", "TRAP 1 0", "RECEIVE 1 4", "TRAP -9 1", "TRAP 0 1", "RECEIVE 1 4");
        x.spawn(0, 0);
        checks.due("TRAPS or not (at first): process(0, 6)", x.process(0, 6), 0);
        for (int traps : new int[] {1, 0, 1}) {
            x.run(1);
            checks.due("process(0, 6)", x.process(0, 6), traps);
            x.send(0, 0, 0);
        }
    }

    private static void call(Checks checks) {
        checks.says("16 CALL: to the start of module a's current version");
        MailProcesses x = new MailProcesses();
        Programs.module(x, 0, "SET 2 6", "TRAP 0 1", "CALL 3", "TELL 0");
        Programs.module(x, 3, "TELL 2", "RECEIVE 0 4");
        x.spawn(0, 8);
        x.send(0, 1, 1);
        x.run(1);
        checks.told("registers stay", x, 6);
        checks.whats("called", x, 0, 1, 3, 0, 1, 0, 0, 1, -1);
        checks.registers("called", x, 0, 8, 0, 6, 0);
        checks.due("no new process: count(3)", x.count(3), 1);
        checks.due("count(0)", x.count(0), 5);
        MailProcesses y = new MailProcesses();
        Programs.module(y, 0, "TELL 0", "CALL 0");
        y.spawn(0, 4);
        y.run(1);
        checks.told("its own module, from its start", y, 4, 4, 4, 4);
    }

    private static void callWithoutAVersion(Checks checks) {
        checks.says("16 CALL: (an END with reason 6 if it has none)");
        for (int m = 1; m < 4; m++) {
            MailProcesses x = done(0, "CALL " + m, "TELL 0");
            checks.due("CALL " + m + ": process(0, 8)", x.process(0, 8), 6);
            checks.due("count(0)", x.count(0), 1);
            checks.due("count(1)", x.count(1), 0);
        }
        MailProcesses x = done(0, "TRAP 0 1", "CALL 1", "TELL 0");
        checks.due("an END, so a trap does not help: process(0, 8)", x.process(0, 8), 6);
    }

    private static void tell(Checks checks) {
        checks.says("17 TELL Ra");
        MailProcesses x = done(MOST, "TELL 0", "SET 3 " + LEAST, "TELL 3", "TELL 2");
        checks.told("told", x, MOST, LEAST, 0);
    }

    private static void whereThereIsNone(Checks checks) {
        checks.says("where there is none, the process ends with reason 0");
        String[][] programs = {{"SET 1 1"}, {"JUMP 1"}, {"JUMP 23"}, {"ZERO 0 23", "TELL 0"}, {"ZERO 0 2", "TELL 0"}, {"ZERO 2 1"}};
        for (String[] program : programs) {
            MailProcesses x = new MailProcesses();
            Programs.module(x, 0, program);
            x.spawn(0, 0);
            checks.due(program[0] + ": run(9)", x.run(9), 1);
            checks.due(program[0] + ": state(0)", x.state(0), 3);
            checks.due(program[0] + ": process(0, 8)", x.process(0, 8), 0);
            checks.due(program[0] + ": count(0)", x.count(0), 1);
            checks.due(program[0] + ": count(1)", x.count(1), 0);
            checks.due(program[0] + ": count(5)", x.count(5), 1);
        }
    }

    private static void lastOfTwentyFour(Checks checks) {
        checks.says("places 0..23 (4, 5): the last of 24 instructions can be led to, and behind it there is none");
        for (String first : new String[] {"JUMP 23", "ZERO 1 23"}) {
            MailProcesses x = new MailProcesses();
            Programs.draft(x, first);
            for (int i = 1; i < 23; i++) {
                Programs.draft(x, "SET 2 9");
            }
            Programs.module(x, 0, "TELL 0");
            x.spawn(0, 6);
            checks.due(first + ": run(9)", x.run(9), 1);
            checks.told(first, x, 6);
            checks.due("count(0)", x.count(0), 2);
            checks.due("state(0)", x.state(0), 3);
            checks.due("process(0, 8)", x.process(0, 8), 0);
        }
    }

    private static void atOnceInTheSameTurn(Checks checks) {
        checks.says("Where an instruction leads to a place without an instruction, the process ends with reason 0 at once behind it, in the same turn");
        MailProcesses x = new MailProcesses();
        Programs.module(x, 0, "SET 1 1", "JUMP 20");
        x.spawn(0, 0);
        checks.due("run(1)", x.run(1), 1);
        checks.due("state(0)", x.state(0), 3);
        checks.due("Such an end is no instruction: count(0)", x.count(0), 2);
        checks.due("run(1)", x.run(1), 0);
    }

    private static void registersAreApart(Checks checks) {
        checks.says("An alive one has REGISTERS 0..3, of its own");
        MailProcesses x = new MailProcesses();
        Programs.module(x, 0, "ZERO 0 5", "SET 0 11", "SET 1 12", "SET 2 13", "SET 3 14", "RECEIVE 0 4");
        x.spawn(0, 0);
        x.spawn(0, 1);
        x.spawn(0, 0);
        x.run(3);
        checks.registers("before", x, 0, 0, 0, 0, 0);
        checks.registers("set", x, 1, 11, 12, 13, 14);
        checks.registers("behind", x, 2, 0, 0, 0, 0);
    }
}
