import java.util.ArrayDeque;
import java.util.ArrayList;
import java.util.Comparator;
import java.util.Deque;
import java.util.List;
import java.util.TreeSet;

/**
 * The document once more, with lists, sets and objects: slow and plain, so that ModelTest can hold the class against
 * it. A version of a module is a list, and a process is in the list itself, not in a number.
 */
final class Model {
    private record Instruction(int op, int a, int b) {
    }

    private record Message(int tag, int value) {
    }

    private record Due(Proc process, int reason) {
    }

    private static final class Proc {
        final int number;
        int state;
        int reason;
        final int[] registers = new int[4];
        int module;
        List<Instruction> version;
        int place;
        boolean traps;
        int tags;
        Integer end;
        final List<Message> mail = new ArrayList<>();
        final TreeSet<Integer> links = new TreeSet<>();
        final TreeSet<Integer> monitors = new TreeSet<>();

        Proc(int number) {
            this.number = number;
        }

        boolean alive() {
            return state == 1 || state == 2;
        }

        boolean nothingNext() {
            return place >= version.size();
        }
    }

    private final Proc[] procs = new Proc[8];
    private final List<List<Instruction>> current = new ArrayList<>();
    private final List<List<Instruction>> old = new ArrayList<>();
    private List<Instruction> draft = new ArrayList<>();
    private final Deque<Proc> queue = new ArrayDeque<>();
    private final Deque<Due> due = new ArrayDeque<>();
    private final List<Integer> told = new ArrayList<>();
    private int time;
    private int turns;
    private int made;
    private int lost;
    private int endings;

    Model() {
        for (int p = 0; p < 8; p++) {
            procs[p] = new Proc(p);
        }
        for (int m = 0; m < 4; m++) {
            current.add(null);
            old.add(null);
        }
    }

    private static boolean in(int value, int least, int most) {
        return least <= value && value <= most;
    }

    private Proc alive(int p) {
        return in(p, 0, 7) && procs[p].alive() ? procs[p] : null;
    }

    int code(int op, int a, int b) {
        boolean ra = in(a, 0, 3);
        boolean rb = in(b, 0, 3);
        boolean good = switch (op) {
            case 0, 9, 10, 11, 12, 14, 17 -> ra;
            case 1, 2, 3, 13 -> ra && rb;
            case 4 -> in(a, 0, 23);
            case 5 -> ra && in(b, 0, 23);
            case 6 -> ra && in(b, 0, 5);
            case 7 -> in(a, 0, 255) && in(b, 0, 4);
            case 8 -> in(a, 0, 3) && in(b, 0, 1);
            case 15 -> in(b, 0, 1);
            case 16 -> in(a, 0, 3);
            default -> false;
        };
        if (!good || draft.size() == 24) {
            return -1;
        }
        draft.add(new Instruction(op, a, b));
        return draft.size();
    }

    int wipe() {
        int size = draft.size();
        draft.clear();
        return size;
    }

    boolean load(int m) {
        if (!in(m, 0, 3) || draft.isEmpty()) {
            return false;
        }
        for (Proc q : procs) {
            if (q.alive() && old.get(m) != null && q.version == old.get(m)) {
                return false;
            }
        }
        old.set(m, current.get(m));
        current.set(m, draft);
        draft = new ArrayList<>();
        return true;
    }

    int purge(int m) {
        if (!in(m, 0, 3)) {
            return -1;
        }
        int ended = 0;
        for (Proc q : procs) {
            if (q.alive() && old.get(m) != null && q.version == old.get(m)) {
                end(q, 8);
                ended++;
            }
        }
        old.set(m, null);
        return ended;
    }

    int spawn(int m, int v) {
        if (!in(m, 0, 3) || current.get(m) == null) {
            return -1;
        }
        for (int p = 0; p < 8; p++) {
            if (!procs[p].alive()) {
                Proc fresh = new Proc(p);
                procs[p] = fresh;
                fresh.state = 1;
                fresh.registers[0] = v;
                fresh.module = m;
                fresh.version = current.get(m);
                queue.addLast(fresh);
                made++;
                return p;
            }
        }
        return -1;
    }

    boolean send(int p, int tag, int v) {
        Proc q = alive(p);
        return q != null && in(tag, 0, 5) && post(q, new Message(tag, v));
    }

    boolean exit(int p, int reason) {
        Proc q = alive(p);
        if (q == null) {
            return false;
        }
        exitSignal(p, q, reason);
        return true;
    }

    int run(int n) {
        if (!in(n, 1, 100) || time > 1000000000) {
            return -1;
        }
        int done = 0;
        while (done < n && turn()) {
            done++;
        }
        return done;
    }

    int state(int p) {
        return in(p, 0, 7) ? procs[p].state : -1;
    }

    int process(int p, int what) {
        if (!in(p, 0, 7)) {
            return -1;
        }
        Proc q = procs[p];
        if (!q.alive()) {
            return q.state == 3 && what == 8 ? q.reason : -1;
        }
        return switch (what) {
            case 0 -> q.place;
            case 1 -> q.module;
            case 2 -> q.version == current.get(q.module) ? 0 : 1;
            case 3 -> q.mail.size();
            case 4 -> sum(q.links);
            case 5 -> sum(q.monitors);
            case 6 -> q.traps ? 1 : 0;
            case 7 -> q.state == 1 || q.end == null ? -1 : Math.max(0, q.end - time);
            default -> -1;
        };
    }

    private static int sum(TreeSet<Integer> numbers) {
        int sum = 0;
        for (int number : numbers) {
            sum += 1 << number;
        }
        return sum;
    }

    int register(int p, int r) {
        return in(p, 0, 7) && in(r, 0, 3) && procs[p].state != 0 ? procs[p].registers[r] : 0;
    }

    long message(int p, int k, int what) {
        Proc q = alive(p);
        if (q == null || !in(k, 0, q.mail.size() - 1) || !in(what, 0, 1)) {
            return 10000000000L;
        }
        return what == 0 ? q.mail.get(k).tag() : q.mail.get(k).value();
    }

    int ready(int k) {
        return in(k, 0, queue.size() - 1) ? new ArrayList<>(queue).get(k).number : -1;
    }

    int told(int k) {
        return in(k, 0, Math.min(15, told.size() - 1)) ? told.get(told.size() - 1 - k) : 0;
    }

    int count(int what) {
        return switch (what) {
            case 0 -> time;
            case 1 -> told.size();
            case 2 -> turns;
            case 3 -> made;
            case 4 -> lost;
            case 5 -> endings;
            default -> -1;
        };
    }

    private boolean isDue(Proc q) {
        return due.stream().anyMatch(d -> d.process() == q);
    }

    private boolean post(Proc q, Message message) {
        if (isDue(q)) {
            return false;
        }
        if (q.mail.size() == 12) {
            lost++;
            return false;
        }
        q.mail.add(message);
        if (q.state == 2 && (q.tags & 1 << message.tag()) != 0) {
            q.state = 1;
            queue.addLast(q);
        }
        return true;
    }

    private void exitSignal(int from, Proc q, int reason) {
        if (reason == 9) {
            end(q, 8);
        } else {
            signal(from, q, reason);
            endAllDue();
        }
    }

    private void signal(int from, Proc q, int reason) {
        if (isDue(q)) {
            return;
        }
        if (q.traps) {
            post(q, new Message(6, from + 8 * reason));
        } else if (reason != 0) {
            due.addLast(new Due(q, reason));
        }
    }

    private void end(Proc q, int reason) {
        due.addLast(new Due(q, reason));
        endAllDue();
    }

    private void endAllDue() {
        while (!due.isEmpty()) {
            Due next = due.removeFirst();
            Proc q = next.process();
            q.state = 3;
            q.reason = next.reason();
            q.mail.clear();
            queue.remove(q);
            endings++;
            for (int number : q.links) {
                procs[number].links.remove(q.number);
            }
            List<Proc> watchers = new ArrayList<>();
            for (Proc other : procs) {
                if (other.monitors.remove(q.number)) {
                    watchers.add(other);
                }
            }
            for (int number : q.links) {
                signal(q.number, procs[number], q.reason);
            }
            for (Proc other : watchers) {
                post(other, new Message(7, q.number + 8 * q.reason));
            }
            q.links.clear();
            q.monitors.clear();
        }
    }

    private void wake() {
        List<Proc> over = new ArrayList<>();
        for (Proc q : procs) {
            if (q.state == 2 && q.end != null && q.end <= time) {
                over.add(q);
            }
        }
        over.sort(Comparator.comparing((Proc q) -> q.end));
        for (Proc q : over) {
            q.state = 1;
            q.registers[1] = -1;
            q.place++;
            queue.addLast(q);
        }
    }

    private boolean turn() {
        wake();
        if (queue.isEmpty()) {
            Integer least = null;
            for (Proc q : procs) {
                if (q.state == 2 && q.end != null && (least == null || q.end < least)) {
                    least = q.end;
                }
            }
            if (least == null) {
                return false;
            }
            time = least;
            wake();
        }
        turns++;
        Proc q = queue.removeFirst();
        if (q.nothingNext()) {
            end(q, 0);
        }
        for (int i = 0; i < 8 && q.state == 1; i++) {
            time++;
            step(q, q.version.get(q.place));
            if (q.state == 1 && q.nothingNext()) {
                end(q, 0);
            }
        }
        if (q.state == 1) {
            queue.addLast(q);
        }
        return true;
    }

    private void step(Proc q, Instruction row) {
        int[] r = q.registers;
        int a = row.a();
        int b = row.b();
        q.place++;
        switch (row.op()) {
            case 0 -> r[a] = b;
            case 1 -> r[a] += r[b];
            case 2 -> r[a] -= r[b];
            case 3 -> r[a] = r[b];
            case 4 -> q.place = a;
            case 5 -> q.place = r[a] == 0 ? b : q.place;
            case 6 -> {
                if (alive(r[a]) == null) {
                    lost++;
                } else {
                    post(alive(r[a]), new Message(b, r[0]));
                }
            }
            case 7 -> receive(q, a, b);
            case 8 -> {
                r[1] = spawn(a, r[0]);
                if (r[1] >= 0 && b == 1) {
                    q.links.add(r[1]);
                    procs[r[1]].links.add(q.number);
                }
            }
            case 9 -> r[a] = q.number;
            case 10 -> {
                if (alive(r[a]) == null) {
                    signal(q.number, q, 7);
                    endAllDue();
                } else if (r[a] != q.number) {
                    q.links.add(r[a]);
                    procs[r[a]].links.add(q.number);
                }
            }
            case 11 -> {
                if (in(r[a], 0, 7)) {
                    q.links.remove(r[a]);
                    procs[r[a]].links.remove(q.number);
                }
            }
            case 12 -> {
                if (alive(r[a]) == null) {
                    post(q, new Message(7, 56 + Math.floorMod(r[a], 8)));
                } else if (r[a] != q.number) {
                    q.monitors.add(r[a]);
                }
            }
            case 13 -> {
                if (alive(r[a]) != null) {
                    exitSignal(q.number, alive(r[a]), r[b]);
                }
            }
            case 14 -> end(q, r[a]);
            case 15 -> q.traps = b == 1;
            case 16 -> {
                if (current.get(a) == null) {
                    end(q, 6);
                } else {
                    q.module = a;
                    q.version = current.get(a);
                    q.place = 0;
                }
            }
            case 17 -> told.add(r[a]);
            default -> throw new IllegalStateException();
        }
    }

    private void receive(Proc q, int tags, int limit) {
        for (Message message : q.mail) {
            if ((tags & 1 << message.tag()) != 0) {
                q.registers[0] = message.value();
                q.registers[1] = message.tag();
                q.mail.remove(message);
                return;
            }
        }
        if (limit != 4 && q.registers[limit] <= 0) {
            q.registers[1] = -1;
            return;
        }
        q.state = 2;
        q.tags = tags;
        q.end = limit == 4 ? null : Integer.valueOf(time + Math.min(1000, q.registers[limit]));
        q.place--;
    }
}
