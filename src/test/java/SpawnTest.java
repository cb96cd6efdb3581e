import java.util.List;

/** Promise 6 and the instruction SPAWN: new processes. */
public final class SpawnTest {
    public static void main(String[] args) {
        Checks checks = new Checks();
        aNewProcess(checks);
        anyIntInRegisterZero(checks);
        atTheBack(checks);
        leastNumber(checks);
        nothingIsLeftOfTheEnded(checks);
        allAreAlive(checks);
        noCurrentVersion(checks);
        noSuchModule(checks);
        inTheCurrentVersion(checks);
        spawnGivesRegisterZero(checks);
        spawnTellsTheNumber(checks);
        spawnAtTheBack(checks);
        spawnLinked(checks);
        spawnNotLinked(checks);
        spawnWithoutAVersion(checks);
        spawnWhenAllAreAlive(checks);
        spawnFromTheOldVersion(checks);
        checks.end();
    }

    private static void aNewProcess(Checks checks) {
        checks.says("spawn: A new process of module m, register 0 being v, the others 0: its number");
        MailProcesses x = new MailProcesses();
        Programs.module(x, 3, "TELL 0");
        checks.due("spawn(3, -5)", x.spawn(3, -5), 0);
        checks.due("state(0)", x.state(0), 1);
        checks.registers("new", x, 0, -5, 0, 0, 0);
        checks.whats("new", x, 0, 0, 3, 0, 0, 0, 0, 0, -1, -1);
        checks.mail("new", x, 0);
        checks.due("count(3)", x.count(3), 1);
    }

    private static void anyIntInRegisterZero(Checks checks) {
        checks.says("spawn: register 0 being v, the least and the greatest int too");
        for (int v : new int[] {0, -1, Integer.MIN_VALUE, Integer.MAX_VALUE}) {
            MailProcesses x = new MailProcesses();
            Programs.module(x, 0, "TELL 0");
            checks.due("spawn(0, " + v + ")", x.spawn(0, v), 0);
            checks.registers("new", x, 0, v, 0, 0, 0);
        }
    }

    private static void atTheBack(Checks checks) {
        checks.says("spawn: at the back of the queue");
        MailProcesses x = new MailProcesses();
        Programs.module(x, 0, "JUMP 0");
        x.spawn(0, 0);
        x.spawn(0, 0);
        x.run(1);
        x.spawn(0, 0);
        checks.queue("three", x, 1, 0, 2);
    }

    private static void leastNumber(Checks checks) {
        checks.says("A new process gets the least number that is not alive");
        MailProcesses x = new MailProcesses();
        Programs.module(x, 0, "RECEIVE 1 4");
        for (int p = 0; p < 8; p++) {
            checks.due("spawn " + p, x.spawn(0, p), p);
        }
        x.exit(6, 1);
        x.exit(2, 1);
        checks.due("spawn(0, 20)", x.spawn(0, 20), 2);
        checks.due("spawn(0, 60)", x.spawn(0, 60), 6);
        checks.queue("at the back", x, 0, 1, 3, 4, 5, 7, 2, 6);
        x.exit(7, 1);
        checks.due("spawn(0, 70)", x.spawn(0, 70), 7);
        x.exit(0, 1);
        checks.due("spawn(0, 80)", x.spawn(0, 80), 0);
        checks.due("count(3)", x.count(3), 12);
        MailProcesses y = new MailProcesses();
        Programs.module(y, 0, "RECEIVE 1 4");
        y.spawn(0, 0);
        y.spawn(0, 0);
        y.exit(1, 1);
        checks.due("an ENDED one before those that never were", y.spawn(0, 0), 1);
    }

    private static void nothingIsLeftOfTheEnded(Checks checks) {
        checks.says("spawn: A new process, with nothing of the ENDED one that had its number");
        MailProcesses x = new MailProcesses();
        Programs.module(x, 0, "RECEIVE 0 4");
        Programs.module(x, 1, "TRAP 0 1", "LINK 1", "MONITOR 1", "SET 2 9", "SET 3 9", "SET 1 9", "RECEIVE 0 1");
        Programs.module(x, 2, "TRAP 0 1", "RECEIVE 0 4");
        x.spawn(2, 0);
        x.spawn(1, 5);
        x.run(2);
        x.send(1, 3, 3);
        Programs.module(x, 1, "TELL 0");
        checks.whats("full of things", x, 1, 6, 1, 1, 1, 1, 1, 1, 9, -1);
        x.exit(1, 9);
        checks.due("spawn(0, 4)", x.spawn(0, 4), 1);
        checks.whats("new", x, 1, 0, 0, 0, 0, 0, 0, 0, -1, -1);
        checks.registers("new", x, 1, 4, 0, 0, 0);
        checks.mail("new", x, 1);
        x.run(1);
        checks.due("no end of waiting: process(1, 7)", x.process(1, 7), -1);
        checks.due("run(9)", x.run(9), 0);
        x.exit(1, 4);
        checks.due("no trap: state(1)", x.state(1), 3);
    }

    private static void allAreAlive(Checks checks) {
        checks.says("spawn: NONE if there is none: all are alive");
        MailProcesses x = new MailProcesses();
        Programs.module(x, 0, "RECEIVE 1 4");
        for (int p = 0; p < 8; p++) {
            x.spawn(0, p);
        }
        checks.due("spawn 8, all READY", x.spawn(0, 8), -1);
        x.run(3);
        List<String> before = Snapshot.of(x);
        checks.due("spawn 8, some WAITING", x.spawn(0, 8), -1);
        checks.unchanged("spawn 8", x, before);
        x.run(5);
        checks.due("spawn 8, all WAITING", x.spawn(0, 8), -1);
        checks.due("count(3)", x.count(3), 8);
    }

    private static void noCurrentVersion(Checks checks) {
        checks.says("spawn: NONE if there is none: the module has no current version");
        MailProcesses x = new MailProcesses();
        Programs.module(x, 1, "TELL 0");
        List<String> before = Snapshot.of(x);
        for (int m : new int[] {0, 2, 3}) {
            checks.due("spawn(" + m + ", 1)", x.spawn(m, 1), -1);
        }
        checks.unchanged("spawn", x, before);
    }

    private static void noSuchModule(Checks checks) {
        checks.says("spawn: NONE for what is no module");
        MailProcesses x = new MailProcesses();
        for (int m = 0; m < 4; m++) {
            Programs.module(x, m, "TELL 0");
        }
        List<String> before = Snapshot.of(x);
        for (int m : new int[] {-1, 4, 5, 8, Integer.MIN_VALUE, Integer.MAX_VALUE}) {
            checks.due("spawn(" + m + ", 1)", x.spawn(m, 1), -1);
        }
        checks.unchanged("spawn", x, before);
    }

    private static void inTheCurrentVersion(Checks checks) {
        checks.says("spawn: of module m, in its current version");
        MailProcesses x = new MailProcesses();
        Programs.module(x, 2, "SET 1 1", "TELL 1");
        Programs.module(x, 2, "SET 1 2", "TELL 1");
        x.spawn(2, 0);
        checks.due("process(0, 2)", x.process(0, 2), 0);
        x.run(1);
        checks.told("the second version", x, 2);
    }

    private static void spawnGivesRegisterZero(Checks checks) {
        checks.says("8 SPAWN a new process, at the start of module a's current version, with register 0 as here, the others 0");
        MailProcesses x = new MailProcesses();
        Programs.module(x, 0, "SET 1 5", "SET 2 5", "SET 3 5", "TRAP 0 1", "SPAWN 3 0", "RECEIVE 0 4");
        Programs.module(x, 3, "RECEIVE 0 4");
        x.spawn(0, 33);
        x.run(1);
        checks.registers("made", x, 1, 33, 0, 0, 0);
        checks.whats("made", x, 1, 0, 3, 0, 0, 0, 0, 0, -1, -1);
        checks.due("state(1)", x.state(1), 1);
        checks.due("count(3)", x.count(3), 2);
    }

    private static void spawnTellsTheNumber(Checks checks) {
        checks.says("8 SPAWN: register 1 gets its number");
        MailProcesses x = new MailProcesses();
        Programs.module(x, 0, "SPAWN 1 0", "TELL 1", "SPAWN 1 0", "TELL 1", "RECEIVE 0 4");
        Programs.module(x, 1, "RECEIVE 0 4");
        x.spawn(1, 0);
        x.spawn(1, 0);
        x.spawn(0, 33);
        x.spawn(1, 0);
        x.run(2);
        x.exit(0, 1);
        x.run(1);
        checks.told("the least, then the next", x, 0, 4);
        checks.registers("the maker", x, 2, 33, 4, 0, 0);
    }

    private static void spawnAtTheBack(Checks checks) {
        checks.says("A new process, also one of SPAWN, is READY, at the back of the queue");
        MailProcesses x = new MailProcesses();
        Programs.module(x, 0, "SPAWN 1 0", "SPAWN 1 1", "RECEIVE 0 4");
        Programs.module(x, 1, "RECEIVE 0 4");
        x.spawn(0, 0);
        x.spawn(1, 0);
        x.run(1);
        checks.states("made", x, 2, 1, 1, 1);
        checks.queue("behind who stood there", x, 1, 2, 3);
    }

    private static void spawnLinked(Checks checks) {
        checks.says("8 SPAWN: with b 1 both are linked");
        MailProcesses x = new MailProcesses();
        Programs.module(x, 0, "SPAWN 1 1", "RECEIVE 0 4");
        Programs.module(x, 1, "RECEIVE 0 4");
        x.spawn(0, 0);
        x.run(1);
        checks.due("process(0, 4)", x.process(0, 4), 2);
        checks.due("process(1, 4)", x.process(1, 4), 1);
        x.exit(1, 5);
        checks.due("process(0, 8)", x.process(0, 8), 5);
    }

    private static void spawnNotLinked(Checks checks) {
        checks.says("8 SPAWN: with b 0 they are not linked");
        MailProcesses x = new MailProcesses();
        Programs.module(x, 0, "SPAWN 1 0", "RECEIVE 0 4");
        Programs.module(x, 1, "RECEIVE 0 4");
        x.spawn(0, 0);
        x.run(1);
        checks.due("process(0, 4)", x.process(0, 4), 0);
        checks.due("process(1, 4)", x.process(1, 4), 0);
        x.exit(1, 5);
        checks.due("state(0)", x.state(0), 2);
    }

    private static void spawnWithoutAVersion(Checks checks) {
        checks.says("8 SPAWN: register 1 gets -1 if there is none: the module has no current version");
        MailProcesses x = new MailProcesses();
        Programs.module(x, 0, "SET 1 7", "SPAWN 1 1", "TELL 1", "RECEIVE 0 4");
        x.spawn(0, 0);
        x.run(1);
        checks.told("none", x, -1);
        checks.due("no link: process(0, 4)", x.process(0, 4), 0);
        checks.due("it goes on: state(0)", x.state(0), 2);
        checks.due("count(3)", x.count(3), 1);
        checks.due("state(1)", x.state(1), 0);
    }

    private static void spawnWhenAllAreAlive(Checks checks) {
        checks.says("8 SPAWN: register 1 gets -1 if there is none: all are alive");
        MailProcesses x = new MailProcesses();
        Programs.module(x, 0, "RECEIVE 1 4", "SPAWN 0 1", "TELL 1", "RECEIVE 0 4");
        for (int p = 0; p < 8; p++) {
            x.spawn(0, 0);
        }
        x.run(8);
        x.send(3, 0, 0);
        x.run(1);
        checks.told("none", x, -1);
        checks.due("no link: process(3, 4)", x.process(3, 4), 0);
        checks.due("it goes on: state(3)", x.state(3), 2);
        checks.due("count(3)", x.count(3), 8);
    }

    private static void spawnFromTheOldVersion(Checks checks) {
        checks.says("8 SPAWN: at the start of module a's current version, also from its old one");
        MailProcesses x = new MailProcesses();
        Programs.module(x, 0, "RECEIVE 1 4", "SPAWN 0 0", "RECEIVE 0 4");
        x.spawn(0, 0);
        x.run(1);
        Programs.module(x, 0, "SET 2 50", "RECEIVE 0 4");
        x.send(0, 0, 0);
        x.run(2);
        checks.due("process(0, 2)", x.process(0, 2), 1);
        checks.due("process(1, 2)", x.process(1, 2), 0);
        checks.due("register(1, 2)", x.register(1, 2), 50);
    }
}
