/** Promise 6 and the instruction SPAWN: new processes. */
public final class SpawnTest {
    public static void main(String[] args) {
        Checks checks = new Checks();
        aNewProcess(checks);
        wrongInputs(checks);
        allAlive(checks);
        leastNumber(checks);
        nothingIsLeftOfTheEnded(checks);
        spawnInstruction(checks);
        spawnInstructionWithoutAny(checks);
        checks.end();
    }

    private static void aNewProcess(Checks checks) {
        MailProcesses x = new MailProcesses();
        Programs.module(x, 3, "TELL 0");
        checks.due("spawn(3, -5)", x.spawn(3, -5), 0);
        checks.due("state(0)", x.state(0), 1);
        int[] registers = {-5, 0, 0, 0};
        for (int r = 0; r < 4; r++) {
            checks.due("register(0, " + r + ")", x.register(0, r), registers[r]);
        }
        int[] whats = {0, 3, 0, 0, 0, 0, 0, -1, -1};
        for (int what = 0; what < whats.length; what++) {
            checks.due("process(0, " + what + ")", x.process(0, what), whats[what]);
        }
        checks.due("spawn(3, 1)", x.spawn(3, 1), 1);
        checks.queue("at the back", x, 0, 1);
        checks.due("count(3)", x.count(3), 2);
    }

    private static void wrongInputs(Checks checks) {
        MailProcesses x = new MailProcesses();
        Programs.module(x, 1, "TELL 0");
        for (int m : new int[] {-1, 0, 2, 3, 4, Integer.MIN_VALUE, Integer.MAX_VALUE}) {
            checks.due("spawn(" + m + ", 1)", x.spawn(m, 1), -1);
        }
        checks.due("count(3)", x.count(3), 0);
        checks.due("state(0)", x.state(0), 0);
    }

    private static void allAlive(Checks checks) {
        MailProcesses x = new MailProcesses();
        Programs.module(x, 0, "RECEIVE 1 4");
        for (int p = 0; p < 8; p++) {
            checks.due("spawn " + p, x.spawn(0, p), p);
        }
        checks.due("spawn 8", x.spawn(0, 8), -1);
        x.run(3);
        checks.due("spawn 8, some WAITING", x.spawn(0, 8), -1);
        checks.due("count(3)", x.count(3), 8);
        checks.queue("the others", x, 3, 4, 5, 6, 7);
    }

    private static void leastNumber(Checks checks) {
        MailProcesses x = new MailProcesses();
        Programs.module(x, 0, "RECEIVE 1 4");
        for (int p = 0; p < 8; p++) {
            x.spawn(0, p);
        }
        x.exit(6, 1);
        x.exit(2, 1);
        checks.due("spawn(0, 20)", x.spawn(0, 20), 2);
        checks.due("spawn(0, 60)", x.spawn(0, 60), 6);
        checks.queue("at the back", x, 0, 1, 3, 4, 5, 7, 2, 6);
    }

    private static void nothingIsLeftOfTheEnded(Checks checks) {
        MailProcesses x = new MailProcesses();
        Programs.module(x, 0, "RECEIVE 0 4");
        Programs.module(x, 1, "TRAP 0 1", "LINK 1", "MONITOR 1", "SET 2 9", "SET 3 9", "RECEIVE 0 4");
        Programs.module(x, 2, "LINK 2", "MONITOR 2", "RECEIVE 0 4");
        x.spawn(0, 0);
        x.spawn(1, 5);
        x.spawn(2, 0);
        x.run(3);
        x.send(0, 0, 1);
        checks.due("process(2, 4)", x.process(2, 4), 1);
        checks.due("process(2, 5)", x.process(2, 5), 1);
        x.exit(0, 9);
        checks.due("spawn(0, 4)", x.spawn(0, 4), 0);
        checks.due("process(0, 3)", x.process(0, 3), 0);
        checks.due("process(0, 4)", x.process(0, 4), 0);
        checks.due("process(2, 4)", x.process(2, 4), -1);
        x.exit(1, 9);
        checks.due("spawn(0, 4)", x.spawn(0, 4), 1);
        int[] whats = {0, 0, 0, 0, 0, 0, 0, -1, -1};
        for (int what = 0; what < whats.length; what++) {
            checks.due("process(1, " + what + ")", x.process(1, what), whats[what]);
        }
        int[] registers = {4, 0, 0, 0};
        for (int r = 0; r < 4; r++) {
            checks.due("register(1, " + r + ")", x.register(1, r), registers[r]);
        }
    }

    private static void spawnInstruction(Checks checks) {
        MailProcesses x = new MailProcesses();
        Programs.module(x, 0, "SET 1 5", "SET 2 5", "SET 3 5", "SPAWN 1 0", "TELL 1", "SPAWN 1 1", "TELL 1", "RECEIVE 0 4");
        Programs.module(x, 1, "RECEIVE 0 4");
        x.spawn(0, 33);
        x.spawn(1, 0);
        x.run(1);
        checks.told("their numbers", x, 2, 3);
        checks.queue("behind those that stood there", x, 1, 2, 3);
        checks.due("process(0, 4)", x.process(0, 4), 8);
        checks.due("process(2, 4)", x.process(2, 4), 0);
        checks.due("process(3, 4)", x.process(3, 4), 1);
        checks.due("process(3, 1)", x.process(3, 1), 1);
        int[] registers = {33, 0, 0, 0};
        for (int r = 0; r < 4; r++) {
            checks.due("register(3, " + r + ")", x.register(3, r), registers[r]);
        }
        checks.due("count(3)", x.count(3), 4);
    }

    private static void spawnInstructionWithoutAny(Checks checks) {
        MailProcesses x = new MailProcesses();
        Programs.module(x, 0, "SET 1 7", "SPAWN 1 1", "TELL 1", "RECEIVE 1 4", "SPAWN 0 1", "TELL 1", "RECEIVE 0 4");
        x.spawn(0, 0);
        x.run(1);
        checks.told("no such module", x, -1);
        for (int p = 1; p < 8; p++) {
            x.spawn(0, 0);
        }
        x.send(0, 0, 0);
        x.run(8);
        checks.due("all are alive: told(0)", x.told(0), -1);
        checks.due("count(3)", x.count(3), 8);
        checks.due("process(0, 4)", x.process(0, 4), 0);
        checks.due("state(0)", x.state(0), 2);
    }
}
