/** Processes with mailboxes, over modules whose code is replaced while it runs. */
public final class MailProcesses {
    public static final int NONE = -1;

    private static final int PROCESSES = 8;
    private static final int REGISTERS = 4;
    private static final int MODULES = 4;
    private static final int MAILBOX = 12;
    private static final int ROW = 24;
    private static final int VERSIONS = 8;
    private static final int ALL_ROWS = 192;
    private static final int ALL_REGISTERS = 32;
    private static final int ALL_MESSAGES = 96;
    private static final int TURN_LENGTH = 8;
    private static final int MOST_TURNS = 100;
    private static final int LAST_TIME = 1000000000;
    private static final int LONGEST_WAIT = 1000;
    private static final int TOLD_KEPT = 16;
    private static final long NO_MESSAGE = 10000000000L;

    private static final int UNMADE = 0;
    private static final int READY = 1;
    private static final int WAITING = 2;
    private static final int ENDED = 3;

    private static final int SET = 0;
    private static final int ADD = 1;
    private static final int SUB = 2;
    private static final int MOVE = 3;
    private static final int JUMP = 4;
    private static final int ZERO = 5;
    private static final int SEND = 6;
    private static final int RECEIVE = 7;
    private static final int SPAWN = 8;
    private static final int SELF = 9;
    private static final int LINK = 10;
    private static final int UNLINK = 11;
    private static final int MONITOR = 12;
    private static final int EXIT = 13;
    private static final int END = 14;
    private static final int TRAP = 15;
    private static final int CALL = 16;
    private static final int TELL = 17;

    private static final int NO_LIMIT = 4;
    private static final int LAST_SENT_TAG = 5;
    private static final int SIGNAL_TAG = 6;
    private static final int MONITOR_TAG = 7;
    private static final int NORMAL = 0;
    private static final int NO_MODULE = 6;
    private static final int NOT_ALIVE = 7;
    private static final int KILLED = 8;
    private static final int KILL = 9;

    private final int[] draftOps = new int[ROW];
    private final int[] draftAs = new int[ROW];
    private final int[] draftBs = new int[ROW];
    private int draftLength;

    // Version 2 * m is the current one of module m, version 2 * m + 1 the old one; length 0 means that there is none.
    private final int[] ops = new int[ALL_ROWS];
    private final int[] as = new int[ALL_ROWS];
    private final int[] bs = new int[ALL_ROWS];
    private final int[] lengths = new int[VERSIONS];

    private final int[] stateOf = new int[PROCESSES];
    private final int[] reasonOf = new int[PROCESSES];
    private final int[] registers = new int[ALL_REGISTERS];
    private final int[] versionOf = new int[PROCESSES];
    private final int[] placeOf = new int[PROCESSES];
    private final boolean[] traps = new boolean[PROCESSES];
    private final int[] links = new int[PROCESSES];
    private final int[] monitors = new int[PROCESSES];
    private final int[] waitTags = new int[PROCESSES];
    private final int[] waitEnds = new int[PROCESSES];

    private final int[] mailTags = new int[ALL_MESSAGES];
    private final int[] mailInts = new int[ALL_MESSAGES];
    private final int[] mailCounts = new int[PROCESSES];

    // The queue is the READY ones by their tickets, so that who ends or is woken needs no moving of the others.
    private final long[] tickets = new long[PROCESSES];
    private long nextTicket;

    private final int[] toEnd = new int[PROCESSES];
    private final boolean[] isToEnd = new boolean[PROCESSES];
    private int toEndCount;

    private final int[] toldInts = new int[TOLD_KEPT];
    private int toldCount;
    private int time;
    private int turns;
    private int made;
    private int lost;
    private int endings;

    public MailProcesses() {
    }

    public int code(int op, int a, int b) {
        if (draftLength >= ROW || !isInstruction(op, a, b)) {
            return NONE;
        }
        draftOps[draftLength] = op;
        draftAs[draftLength] = a;
        draftBs[draftLength] = b;
        draftLength++;
        return draftLength;
    }

    public int wipe() {
        int had = draftLength;
        draftLength = 0;
        return had;
    }

    public boolean load(int m) {
        if (!isBelow(m, MODULES) || draftLength == 0 || isOldInUse(m)) {
            return false;
        }
        int current = 2 * m;
        for (int i = 0; i < ROW; i++) {
            int from = current * ROW + i;
            int to = from + ROW;
            ops[to] = ops[from];
            as[to] = as[from];
            bs[to] = bs[from];
            ops[from] = draftOps[i];
            as[from] = draftAs[i];
            bs[from] = draftBs[i];
        }
        lengths[current + 1] = lengths[current];
        lengths[current] = draftLength;
        draftLength = 0;
        for (int p = 0; p < PROCESSES; p++) {
            if (versionOf[p] == current) {
                versionOf[p] = current + 1;
            }
        }
        return true;
    }

    public int purge(int m) {
        if (!isBelow(m, MODULES)) {
            return NONE;
        }
        int old = 2 * m + 1;
        int ended = 0;
        for (int p = 0; p < PROCESSES; p++) {
            if (isAlive(p) && versionOf[p] == old) {
                markToEnd(p, KILLED);
                finishEndings();
                ended++;
            }
        }
        lengths[old] = 0;
        return ended;
    }

    public int spawn(int m, int v) {
        return isBelow(m, MODULES) ? makeProcess(m, v) : NONE;
    }

    public boolean send(int p, int tag, int v) {
        return isAlive(p) && isBelow(tag, LAST_SENT_TAG + 1) && deliver(p, tag, v);
    }

    public boolean exit(int p, int reason) {
        if (!isAlive(p)) {
            return false;
        }
        giveSignal(p, p, reason, true);
        finishEndings();
        return true;
    }

    public int run(int n) {
        if (n < 1 || n > MOST_TURNS || time > LAST_TIME) {
            return NONE;
        }
        int done = 0;
        for (int i = 0; i < n; i++) {
            int p = startTurn();
            if (p == NONE) {
                break;
            }
            takeTurn(p);
            done++;
        }
        turns += done;
        return done;
    }

    public int state(int p) {
        return isBelow(p, PROCESSES) ? stateOf[p] : NONE;
    }

    public int process(int p, int what) {
        if (!isAlive(p)) {
            return what == 8 && isBelow(p, PROCESSES) && stateOf[p] == ENDED ? reasonOf[p] : NONE;
        }
        switch (what) {
            case 0:
                return placeOf[p];
            case 1:
                return versionOf[p] / 2;
            case 2:
                return versionOf[p] % 2;
            case 3:
                return mailCounts[p];
            case 4:
                return links[p];
            case 5:
                return monitors[p];
            case 6:
                return traps[p] ? 1 : 0;
            case 7:
                return timeLeft(p);
            default:
                return NONE;
        }
    }

    public int register(int p, int r) {
        if (!isBelow(p, PROCESSES) || !isBelow(r, REGISTERS) || stateOf[p] == UNMADE) {
            return 0;
        }
        return registers[p * REGISTERS + r];
    }

    public long message(int p, int k, int what) {
        if (!isAlive(p) || !isBelow(k, mailCounts[p])) {
            return NO_MESSAGE;
        }
        int at = p * MAILBOX + k;
        if (what == 0) {
            return mailTags[at];
        }
        return what == 1 ? mailInts[at] : NO_MESSAGE;
    }

    public int ready(int k) {
        for (int p = 0; p < PROCESSES; p++) {
            if (stateOf[p] == READY && readyBefore(p) == k) {
                return p;
            }
        }
        return NONE;
    }

    public int told(int k) {
        // Where nothing was told yet, there is the 0 that is due.
        return isBelow(k, TOLD_KEPT) ? toldInts[toldPlace(toldCount - 1 - k)] : 0;
    }

    public int count(int what) {
        switch (what) {
            case 0:
                return time;
            case 1:
                return toldCount;
            case 2:
                return turns;
            case 3:
                return made;
            case 4:
                return lost;
            case 5:
                return endings;
            default:
                return NONE;
        }
    }

    private static boolean isBelow(int value, int bound) {
        return value >= 0 && value < bound;
    }

    private static boolean isInstruction(int op, int a, int b) {
        switch (op) {
            case SET:
            case SELF:
            case LINK:
            case UNLINK:
            case MONITOR:
            case END:
            case TELL:
                return isBelow(a, REGISTERS);
            case ADD:
            case SUB:
            case MOVE:
            case EXIT:
                return isBelow(a, REGISTERS) && isBelow(b, REGISTERS);
            case JUMP:
                return isBelow(a, ROW);
            case ZERO:
                return isBelow(a, REGISTERS) && isBelow(b, ROW);
            case SEND:
                return isBelow(a, REGISTERS) && isBelow(b, LAST_SENT_TAG + 1);
            case RECEIVE:
                return isBelow(a, 256) && isBelow(b, NO_LIMIT + 1);
            case SPAWN:
                return isBelow(a, MODULES) && isBelow(b, 2);
            case TRAP:
                return isBelow(b, 2);
            case CALL:
                return isBelow(a, MODULES);
            default:
                return false;
        }
    }

    private static boolean hasBit(int set, int bit) {
        return (set >> bit & 1) == 1;
    }

    /** A mask and no remainder, which would be below 0 for a count that has wrapped. */
    private static int toldPlace(int number) {
        return number & TOLD_KEPT - 1;
    }

    private boolean isAlive(int p) {
        return isBelow(p, PROCESSES) && (stateOf[p] == READY || stateOf[p] == WAITING);
    }

    private boolean isOldInUse(int m) {
        boolean used = false;
        for (int p = 0; p < PROCESSES; p++) {
            if (isAlive(p) && versionOf[p] == 2 * m + 1) {
                used = true;
            }
        }
        return used;
    }

    private int timeLeft(int p) {
        if (stateOf[p] != WAITING || waitEnds[p] == NONE) {
            return NONE;
        }
        return waitEnds[p] > time ? waitEnds[p] - time : 0;
    }

    private int readyBefore(int p) {
        int before = 0;
        for (int q = 0; q < PROCESSES; q++) {
            if (stateOf[q] == READY && tickets[q] < tickets[p]) {
                before++;
            }
        }
        return before;
    }

    private void goToBack(int p) {
        stateOf[p] = READY;
        tickets[p] = nextTicket;
        nextTicket++;
    }

    private int leastNotAlive() {
        for (int p = 0; p < PROCESSES; p++) {
            if (stateOf[p] == UNMADE || stateOf[p] == ENDED) {
                return p;
            }
        }
        return NONE;
    }

    private int makeProcess(int m, int v) {
        int p = leastNotAlive();
        if (p == NONE || lengths[2 * m] == 0) {
            return NONE;
        }
        for (int r = 0; r < REGISTERS; r++) {
            registers[p * REGISTERS + r] = 0;
        }
        registers[p * REGISTERS] = v;
        versionOf[p] = 2 * m;
        placeOf[p] = 0;
        traps[p] = false;
        made++;
        goToBack(p);
        return p;
    }

    /** Who is to end gets no message, and since it is not counted as lost either, that is looked at first. */
    private boolean deliver(int p, int tag, int v) {
        if (isToEnd[p]) {
            return false;
        }
        if (mailCounts[p] >= MAILBOX) {
            lost++;
            return false;
        }
        int at = p * MAILBOX + mailCounts[p];
        mailTags[at] = tag;
        mailInts[at] = v;
        mailCounts[p]++;
        if (stateOf[p] == WAITING && hasBit(waitTags[p], tag)) {
            goToBack(p);
        }
        return true;
    }

    /** What ends by the signal is only marked: finishEndings is due before anything else is done. */
    private void giveSignal(int from, int to, int reason, boolean byExit) {
        if (byExit && reason == KILL) {
            markToEnd(to, KILLED);
        } else if (traps[to]) {
            deliver(to, SIGNAL_TAG, from + 8 * reason);
        } else if (reason != NORMAL) {
            markToEnd(to, reason);
        }
    }

    private void markToEnd(int p, int reason) {
        if (isToEnd[p] || toEndCount >= PROCESSES) {
            return;
        }
        isToEnd[p] = true;
        reasonOf[p] = reason;
        toEnd[toEndCount] = p;
        toEndCount++;
    }

    /** Endings that come of an ending are marked behind it, so that one pass does them all without recursion. */
    private void finishEndings() {
        for (int i = 0; i < PROCESSES; i++) {
            if (i >= toEndCount) {
                break;
            }
            int p = toEnd[i];
            int linked = links[p];
            int watchers = monitorsOn(p);
            close(p);
            for (int q = 0; q < PROCESSES; q++) {
                if (hasBit(linked, q)) {
                    giveSignal(p, q, reasonOf[p], false);
                }
            }
            for (int q = 0; q < PROCESSES; q++) {
                if (hasBit(watchers, q)) {
                    deliver(q, MONITOR_TAG, p + 8 * reasonOf[p]);
                }
            }
        }
        toEndCount = 0;
    }

    private int monitorsOn(int p) {
        int watchers = 0;
        for (int q = 0; q < PROCESSES; q++) {
            if (hasBit(monitors[q], p)) {
                watchers |= 1 << q;
            }
        }
        return watchers;
    }

    private void close(int p) {
        stateOf[p] = ENDED;
        isToEnd[p] = false;
        mailCounts[p] = 0;
        links[p] = 0;
        monitors[p] = 0;
        for (int q = 0; q < PROCESSES; q++) {
            links[q] &= ~(1 << p);
            monitors[q] &= ~(1 << p);
        }
        endings++;
    }

    /** NONE if there is no turn. */
    private int startTurn() {
        wakeSleepers();
        int first = ready(0);
        if (first != NONE) {
            return first;
        }
        int sleeper = nextSleeper();
        if (sleeper == NONE) {
            return NONE;
        }
        time = waitEnds[sleeper];
        wakeSleepers();
        return ready(0);
    }

    private void wakeSleepers() {
        for (int i = 0; i < PROCESSES; i++) {
            int p = nextSleeper();
            if (p == NONE || waitEnds[p] > time) {
                break;
            }
            registers[p * REGISTERS + 1] = -1;
            placeOf[p]++;
            goToBack(p);
        }
    }

    private int nextSleeper() {
        int next = NONE;
        for (int p = 0; p < PROCESSES; p++) {
            if (stateOf[p] == WAITING && waitEnds[p] != NONE && (next == NONE || waitEnds[p] < waitEnds[next])) {
                next = p;
            }
        }
        return next;
    }

    private boolean hasNext(int p) {
        return placeOf[p] < lengths[versionOf[p]];
    }

    private void takeTurn(int p) {
        for (int i = 0; i < TURN_LENGTH; i++) {
            if (hasNext(p)) {
                int at = versionOf[p] * ROW + placeOf[p];
                time++;
                placeOf[p]++;
                // Each of the two passes over the instructions of the other.
                doAlone(p, ops[at], as[at], bs[at]);
                doWithOthers(p, ops[at], as[at], bs[at]);
                finishEndings();
            }
            if (stateOf[p] == READY && !hasNext(p)) {
                markToEnd(p, NORMAL);
                finishEndings();
            }
            if (stateOf[p] != READY) {
                return;
            }
        }
        goToBack(p);
    }

    /** The instructions that touch no other process: apart from the others so that both methods stay short. */
    private void doAlone(int p, int op, int a, int b) {
        int base = p * REGISTERS;
        switch (op) {
            case SET:
                registers[base + a] = b;
                break;
            case ADD:
                registers[base + a] += registers[base + b];
                break;
            case SUB:
                registers[base + a] -= registers[base + b];
                break;
            case MOVE:
                registers[base + a] = registers[base + b];
                break;
            case JUMP:
                placeOf[p] = a;
                break;
            case ZERO:
                placeOf[p] = registers[base + a] == 0 ? b : placeOf[p];
                break;
            case RECEIVE:
                receive(p, a, b);
                break;
            case SELF:
                registers[base + a] = p;
                break;
            case END:
                markToEnd(p, registers[base + a]);
                break;
            case TRAP:
                traps[p] = b == 1;
                break;
            case CALL:
                callModule(p, a);
                break;
            case TELL:
                toldInts[toldPlace(toldCount)] = registers[base + a];
                toldCount++;
                break;
            default:
                break;
        }
    }

    /** The instructions that may touch another process; what ends by them is marked, and ended behind them. */
    private void doWithOthers(int p, int op, int a, int b) {
        int base = p * REGISTERS;
        switch (op) {
            case SEND:
                sendTo(registers[base + a], b, registers[base]);
                break;
            case SPAWN:
                spawnFrom(p, a, b == 1);
                break;
            case LINK:
                if (isAlive(registers[base + a])) {
                    link(p, registers[base + a]);
                } else {
                    giveSignal(p, p, NOT_ALIVE, false);
                }
                break;
            case UNLINK:
                unlink(p, registers[base + a]);
                break;
            case MONITOR:
                monitor(p, registers[base + a]);
                break;
            case EXIT:
                if (isAlive(registers[base + a])) {
                    giveSignal(p, registers[base + a], registers[base + b], true);
                }
                break;
            default:
                break;
        }
    }

    private void receive(int p, int tags, int limit) {
        int k = firstWithTag(p, tags);
        int base = p * REGISTERS;
        if (k != NONE) {
            registers[base] = mailInts[p * MAILBOX + k];
            registers[base + 1] = mailTags[p * MAILBOX + k];
            dropMessage(p, k);
        } else if (limit == NO_LIMIT) {
            waitUntil(p, tags, NONE);
        } else if (registers[base + limit] > 0) {
            int span = registers[base + limit] < LONGEST_WAIT ? registers[base + limit] : LONGEST_WAIT;
            waitUntil(p, tags, time + span);
        } else {
            registers[base + 1] = -1;
        }
    }

    private int firstWithTag(int p, int tags) {
        for (int k = 0; k < MAILBOX; k++) {
            if (k < mailCounts[p] && hasBit(tags, mailTags[p * MAILBOX + k])) {
                return k;
            }
        }
        return NONE;
    }

    private void dropMessage(int p, int k) {
        mailCounts[p]--;
        for (int i = 0; i < MAILBOX - 1; i++) {
            if (i >= k) {
                int at = p * MAILBOX + i;
                mailTags[at] = mailTags[at + 1];
                mailInts[at] = mailInts[at + 1];
            }
        }
    }

    private void waitUntil(int p, int tags, int end) {
        stateOf[p] = WAITING;
        waitTags[p] = tags;
        waitEnds[p] = end;
        // The RECEIVE itself comes next again, unless its time runs out.
        placeOf[p]--;
    }

    private void callModule(int p, int m) {
        if (lengths[2 * m] == 0) {
            markToEnd(p, NO_MODULE);
            return;
        }
        versionOf[p] = 2 * m;
        placeOf[p] = 0;
    }

    private void sendTo(int target, int tag, int v) {
        if (isAlive(target)) {
            deliver(target, tag, v);
        } else {
            lost++;
        }
    }

    private void spawnFrom(int p, int m, boolean linked) {
        int child = makeProcess(m, registers[p * REGISTERS]);
        registers[p * REGISTERS + 1] = child;
        if (linked && child != NONE) {
            link(p, child);
        }
    }

    private void link(int p, int q) {
        if (p != q) {
            links[p] |= 1 << q;
            links[q] |= 1 << p;
        }
    }

    private void unlink(int p, int target) {
        if (isBelow(target, PROCESSES)) {
            links[p] &= ~(1 << target);
            links[target] &= ~(1 << p);
        }
    }

    private void monitor(int p, int target) {
        if (!isAlive(target)) {
            deliver(p, MONITOR_TAG, 56 + (target & 7));
        } else if (target != p) {
            monitors[p] |= 1 << target;
        }
    }
}
