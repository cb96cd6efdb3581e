/**
 * Promises 1 to 17: runs of calls that a fixed sequence of numbers chooses, each answer and at the end everything that
 * can be read held against the model. A run stays below the 512 calls that are promised.
 */
public final class ModelTest {
    private static final int RUNS = 20000;
    private static final int MOST_CALLS_BEFORE_THE_LAST_LOOK = 150;
    private static final int[] INTS = {0, 1, 2, 3, 4, 5, 6, 7, 8, 9, -1, 12, 77, 1000, 2000, Integer.MAX_VALUE, Integer.MIN_VALUE};

    private final Checks checks;
    private final int run;
    private final MailProcesses x = new MailProcesses();
    private final Model y = new Model();
    private long seed;
    private int asked;

    private ModelTest(Checks checks, int run) {
        this.checks = checks;
        this.run = run;
        this.seed = run * 0x9E3779B97F4A7C15L + 1;
    }

    public static void main(String[] args) {
        Checks checks = new Checks();
        for (int run = 0; run < RUNS; run++) {
            ModelTest test = new ModelTest(checks, run);
            test.play();
            test.compareAll();
        }
        checks.end();
    }

    private int below(int bound) {
        seed = seed * 6364136223846793005L + 1442695040888963407L;
        return (int) ((seed >>> 33) % bound);
    }

    private int oneOf(int... values) {
        return values[below(values.length)];
    }

    private int anInt() {
        return below(3) == 0 ? INTS[below(INTS.length)] : below(8);
    }

    private void due(String call, long got, long want) {
        asked++;
        checks.due("run " + run + ": " + call, got, want);
    }

    private void due(String call, boolean got, boolean want) {
        due(call, got ? 1 : 0, want ? 1 : 0);
    }

    private void play() {
        int modules = 1 + below(3);
        for (int m = 0; m < modules; m++) {
            writeModule(m);
        }
        int calls = 10 + below(50);
        for (int i = 0; i < calls && asked < MOST_CALLS_BEFORE_THE_LAST_LOOK; i++) {
            call();
        }
    }

    private void writeModule(int m) {
        int rows = 1 + below(below(4) == 0 ? 24 : 9);
        for (int i = 0; i < rows; i++) {
            writeRow(rows);
        }
        due("load(" + m + ")", x.load(m), y.load(m));
    }

    /** Mostly rows that are taken, with places inside the module and behind it. */
    private void writeRow(int rows) {
        int op = below(18);
        int a = below(4);
        int b = below(4);
        switch (op) {
            case 0 -> b = anInt();
            case 4 -> a = below(rows + 1);
            case 5 -> b = below(rows + 1);
            case 6 -> b = below(6);
            case 7 -> {
                a = oneOf(0, 255, 1, 3, 64, 128, 192, below(256));
                b = below(5);
            }
            case 8, 15 -> b = below(2);
            default -> { }
        }
        if (below(40) == 0) {
            a = oneOf(-1, 4, 24, 256);
        }
        if (below(40) == 0) {
            b = oneOf(-1, 2, 4, 5, 6, 24);
        }
        due("code(" + op + ", " + a + ", " + b + ")", x.code(op, a, b), y.code(op, a, b));
    }

    private void call() {
        int p = below(30) == 0 ? oneOf(-1, 8) : below(8);
        int m = below(30) == 0 ? oneOf(-1, 4) : below(4);
        int v = anInt();
        switch (below(14)) {
            case 0, 1, 2 -> due("spawn(" + m + ", " + v + ")", x.spawn(m, v), y.spawn(m, v));
            case 3, 4, 5 -> {
                int tag = below(30) == 0 ? oneOf(-1, 6, 7) : below(6);
                due("send(" + p + ", " + tag + ", " + v + ")", x.send(p, tag, v), y.send(p, tag, v));
            }
            case 6 -> due("exit(" + p + ", " + v + ")", x.exit(p, v), y.exit(p, v));
            case 7, 8, 9, 10 -> {
                int n = below(20) == 0 ? oneOf(-1, 0, 100, 101) : 1 + below(6);
                due("run(" + n + ")", x.run(n), y.run(n));
            }
            case 11 -> {
                if (below(3) == 0) {
                    writeModule(m);
                }
            }
            case 12 -> {
                if (below(3) == 0) {
                    due("purge(" + m + ")", x.purge(m), y.purge(m));
                } else if (below(6) == 0) {
                    due("wipe()", x.wipe(), y.wipe());
                }
            }
            default -> compareOne(p);
        }
    }

    private void compareOne(int p) {
        due("state(" + p + ")", x.state(p), y.state(p));
        int what = below(11) - 1;
        due("process(" + p + ", " + what + ")", x.process(p, what), y.process(p, what));
    }

    private void compareAll() {
        for (int p = 0; p < 8; p++) {
            due("state(" + p + ")", x.state(p), y.state(p));
            for (int what = 0; what < 9; what++) {
                due("process(" + p + ", " + what + ")", x.process(p, what), y.process(p, what));
            }
            for (int r = 0; r < 4; r++) {
                due("register(" + p + ", " + r + ")", x.register(p, r), y.register(p, r));
            }
            for (int k = 0; k == 0 || k < y.process(p, 3); k++) {
                due("message(" + p + ", " + k + ", 0)", x.message(p, k, 0), y.message(p, k, 0));
                due("message(" + p + ", " + k + ", 1)", x.message(p, k, 1), y.message(p, k, 1));
            }
            due("ready(" + p + ")", x.ready(p), y.ready(p));
        }
        for (int k = 0; k < 16; k++) {
            due("told(" + k + ")", x.told(k), y.told(k));
        }
        for (int what = 0; what < 6; what++) {
            due("count(" + what + ")", x.count(what), y.count(what));
        }
    }
}
