import java.util.ArrayList;
import java.util.List;

// Made-up programs, each run by the class and by a model that takes the document's terms word by word:
// every cycle is looked for from 1 on, against all instructions before.
public final class ModelTests {
    private static final int OBJECTS = 4000;
    private static final int CALLS = 512;

    private static int wrong = 0;
    private static long seed = 1;

    public static void main(String[] args) {
        for (int n = 0; n < OBJECTS && wrong < 20; n++) {
            new Pair(n).compare();
        }
        System.out.println(wrong == 0 ? "all answers are as due" : wrong + " answers are not as due");
        if (wrong != 0) {
            System.exit(1);
        }
    }

    /** From least to greatest; the same numbers each time the tests are run. */
    private static int any(int least, int greatest) {
        seed = seed * 6364136223846793005L + 1442695040888963407L;
        return least + (int) ((seed >>> 33) % (greatest - (long) least + 1));
    }

    /** The class and the model, to which the same is done; it stops at the last call that is promised. */
    private static final class Pair {
        final int n;
        final ScoreDesk desk = new ScoreDesk();
        final Model model = new Model();
        int calls = 0;

        Pair(int n) {
            this.n = n;
        }

        boolean spent() {
            return ++calls > CALLS;
        }

        void due(String call, int got, int want) {
            if (got != want) {
                wrong++;
                System.out.println("object " + n + ": " + call + " answered " + got + ", due is " + want);
            }
        }

        void compare() {
            int runs = any(1, 3);
            for (int i = 0; i < runs && calls < CALLS; i++) {
                change();
                if (spent()) {
                    return;
                }
                due("run()", desk.run(), model.run());
                compareRun();
            }
        }

        void change() {
            int registersUsed = any(2, 8);
            for (int i = any(0, 6); i > 0 && !spent(); i--) {
                changeMachine();
            }
            if (any(0, 3) > 0) {
                clear();
            }
            switch (any(0, 7)) {
                case 0: addEarlyWriters(); break;
                case 1: addPath(); break;
                case 2: addLoop(); break;
                default: addAny(registersUsed);
            }
        }

        void clear() {
            if (!spent()) {
                due("clear()", desk.clear(), model.program.size());
                model.program.clear();
            }
        }

        void changeMachine() {
            int v = any(0, 1) == 0 ? any(-40, 40) : any(Integer.MIN_VALUE / 2, Integer.MAX_VALUE / 2) * 2;
            switch (any(0, 5)) {
                case 0:
                    units(any(0, 5), any(1, 3), any(1, 8));
                    break;
                case 1:
                    fetch(any(1, 4), any(0, 6));
                    break;
                case 2:
                    model.bankTime = any(1, 8);
                    desk.bank(model.bankTime);
                    break;
                case 3: {
                    int w = any(0, 31);
                    desk.poke(w, v);
                    model.words[w] = v;
                    break;
                }
                case 4: {
                    int r = any(0, 7);
                    desk.set(r, v);
                    model.registers[r] = v;
                    break;
                }
                default: {
                    int w = any(0, 24);
                    desk.exchange(w);
                    for (int r = 0; r < 8; r++) {
                        int kept = model.words[w + r];
                        model.words[w + r] = model.registers[r];
                        model.registers[r] = kept;
                    }
                }
            }
        }

        void units(int kind, int many, int latency) {
            due("units", desk.units(kind, many, latency) ? 1 : 0, 1);
            model.many[kind] = many;
            model.latency[kind] = latency;
        }

        void fetch(int size, int time) {
            due("fetch", desk.fetch(size, time) ? 1 : 0, 1);
            model.size = size;
            model.fetchTime = time;
        }

        void add(int op, int d, int a, int b) {
            if (spent()) {
                return;
            }
            int want = model.program.size() == 24 ? ScoreDesk.FULL : model.program.size() + 1;
            due("add", desk.add(op, d, a, b), want);
            if (want != ScoreDesk.FULL) {
                model.program.add(new int[] {op, d, a, b});
            }
        }

        void addAny(int registersUsed) {
            for (int i = any(1, 24); i > 0; i--) {
                int op = any(0, 29);
                op = op == 29 ? 10 : op % 10;
                int d = any(0, registersUsed - 1), a = any(0, registersUsed - 1), b = any(0, registersUsed - 1);
                if (op == 0) {
                    a = any(-5, 5);
                } else if (op == 6 || op == 7) {
                    b = any(-40, 40);
                } else if (op == 8 || op == 9) {
                    b = any(0, 3) == 0 ? any(0, 23) : Math.min(23, model.program.size() + any(1, 4));
                    d = any(-3, 30);
                }
                add(op, d, a, b);
            }
        }

        /** With nothing that holds ISSUE back, WRITEs come to wait for READs before them, which else is rare. */
        void addEarlyWriters() {
            clear();
            if (!spent()) {
                fetch(4, 0);
            }
            for (int kind = 0; kind < 5 && !spent(); kind++) {
                units(kind, 3, kind == 3 ? 8 : any(1, 3));
            }
            for (int i = any(6, 24); i > 0; i--) {
                int op = any(0, 9);
                op = op > 7 ? 0 : op;
                add(op, any(0, 7), any(0, 7), any(0, 7));
            }
        }

        /** GOs along all instructions in any order, so that THE STACK is asked for older PACKs too. */
        void addPath() {
            clear();
            int length = 2 * any(3, 12);
            int[] order = new int[length];
            for (int i = 1; i < length; i++) {
                int j = any(1, i);
                order[i] = order[j];
                order[j] = i;
            }
            int[] target = new int[length];
            for (int i = 0; i < length; i++) {
                target[order[i]] = order[(i + 1) % length];
            }
            for (int i = 0; i < length; i++) {
                add(9, 0, 0, target[i]);
            }
        }

        /** A loop and what comes after it: 59, 60 or 61 instructions, and a HALT or nothing at the end. */
        void addLoop() {
            clear();
            int length = any(3, 8);
            int times = 58 / length;
            add(0, 6, 1, 0);
            add(0, 7, times, 0);
            for (int i = 3; i < length; i++) {
                add(any(1, 7), any(0, 5), any(0, 7), any(0, 7));
            }
            add(2, 7, 7, 6);
            add(8, 0, 7, 2 + length);
            add(9, 0, 0, 2);
            for (int i = 59 - times * length + any(-1, 1); i > 0; i--) {
                add(0, any(0, 7), any(-5, 5), 0);
            }
            if (any(0, 1) == 0) {
                add(10, 0, 0, 0);
            }
        }

        void compareRun() {
            List<Done> all = model.all;
            if (!spent()) {
                due("done()", desk.done(), all.size());
            }
            if (!spent()) {
                due("cycles()", desk.cycles(), model.cycles());
            }
            for (int what = 0; what < 7 && !spent(); what++) {
                due("lost(" + what + ")", desk.lost(what), model.lost(what));
            }
            for (int r = 0; r < 8 && !spent(); r++) {
                due("value(" + r + ")", desk.value(r), model.registers[r]);
            }
            for (int w = 0; w < 32 && !spent(); w++) {
                due("peek(" + w + ")", desk.peek(w), model.words[w]);
            }
            for (int i = 0; i < 20 && !spent(); i++) {
                int kind = any(0, 5), cycle = any(0, model.cycles() + 1);
                due("busy(" + kind + ", " + cycle + ")", desk.busy(kind, cycle), model.busy(kind, cycle));
            }
            for (int k = all.size() - 1; k >= 0; k--) {
                Done i = all.get(k);
                int[] want = {i.number, i.issue, i.read, i.done, i.write, i.unit};
                for (int what = 0; what < 6 && !spent(); what++) {
                    due("time(" + k + ", " + what + ")", desk.time(k, what), want[what]);
                }
            }
        }
    }

    /** An instruction that was done. */
    private static final class Done {
        int number, op, kind, unit, bank;
        int destination = -1;
        final List<Integer> sources = new ArrayList<>();
        int next, fetchedUntil, issue, read, access, done, write;

        boolean inMemory() {
            return kind == 4;
        }
    }

    private static final class Model {
        static final int[] KIND = {0, 1, 1, 1, 2, 3, 4, 4, 5, 5};

        final List<int[]> program = new ArrayList<>();
        final int[] registers = new int[8];
        final int[] words = new int[32];
        final int[] many = {1, 2, 2, 1, 2, 1};
        final int[] latency = {1, 2, 4, 8, 3, 1};
        int size = 2, fetchTime = 2, bankTime = 4;
        List<Done> all = new ArrayList<>();
        List<Integer> stack = new ArrayList<>();

        int run() {
            all = new ArrayList<>();
            stack = new ArrayList<>();
            int at = 0;
            while (at < program.size() && program.get(at)[0] != 10) {
                if (all.size() == 60) {
                    return ScoreDesk.LONG;
                }
                Done i = name(at);
                issue(i);
                i.unit = leastFree(i.kind, i.issue);
                read(i);
                access(i);
                i.done = (i.inMemory() ? i.access : i.read) + latency[i.kind];
                write(i);
                all.add(i);
                at = perform(at);
            }
            return ScoreDesk.OK;
        }

        Done name(int at) {
            int[] p = program.get(at);
            Done i = new Done();
            i.number = at;
            i.op = p[0];
            i.kind = KIND[i.op];
            if (i.op <= 6) {
                i.destination = p[1];
            }
            if (i.op == 7) {
                i.sources.add(p[1]);
            }
            if (i.op >= 1 && i.op <= 8) {
                i.sources.add(p[2]);
            }
            if (i.op >= 1 && i.op <= 5) {
                i.sources.add(p[3]);
            }
            if (i.inMemory()) {
                i.bank = (registers[p[2]] + p[3]) & 3;
            }
            return i;
        }

        void issue(Done i) {
            i.next = 1;
            if (!all.isEmpty()) {
                Done before = all.get(all.size() - 1);
                i.next = 1 + (before.kind == 5 ? before.write : before.issue);
            }
            i.fetchedUntil = i.next;
            if (!stack.contains(i.number / 2)) {
                stack.add(i.number / 2);
                if (stack.size() > size) {
                    stack.remove(0);
                }
                i.fetchedUntil = i.next + fetchTime;
            }
            i.issue = i.fetchedUntil;
            while (destinationWaits(i, i.issue) || leastFree(i.kind, i.issue) < 0) {
                i.issue++;
            }
        }

        boolean destinationWaits(Done i, int cycle) {
            for (Done j : all) {
                if (j == i) {
                    break;
                }
                if (i.destination >= 0 && j.destination == i.destination && j.write >= cycle) {
                    return true;
                }
            }
            return false;
        }

        int leastFree(int kind, int cycle) {
            for (int unit = 0; unit < many[kind]; unit++) {
                boolean free = true;
                for (Done j : all) {
                    free &= !(j.kind == kind && j.unit == unit && j.issue <= cycle && cycle <= j.write);
                }
                if (free) {
                    return unit;
                }
            }
            return -1;
        }

        void read(Done i) {
            i.read = i.issue + 1;
            for (int source : i.sources) {
                for (int k = all.size() - 1; k >= 0; k--) {
                    if (all.get(k).destination == source) {
                        i.read = Math.max(i.read, all.get(k).write + 1);
                        break;
                    }
                }
            }
        }

        void access(Done i) {
            if (!i.inMemory()) {
                return;
            }
            i.access = i.read + 1;
            for (Done j : all) {
                if (j.inMemory()) {
                    i.access = Math.max(i.access, j.access + 1);
                    i.access = Math.max(i.access, j.bank == i.bank ? j.access + bankTime : 0);
                }
            }
        }

        void write(Done i) {
            i.write = i.done;
            for (Done j : all) {
                if (j.sources.contains(i.destination)) {
                    i.write = Math.max(i.write, j.read + 1);
                }
            }
        }

        int perform(int at) {
            int[] p = program.get(at);
            int d = p[1], a = p[2], b = p[3];
            switch (p[0]) {
                case 0: registers[d] = a; break;
                case 1: registers[d] = registers[a] + registers[b]; break;
                case 2: registers[d] = registers[a] - registers[b]; break;
                case 3: registers[d] = registers[a] < registers[b] ? 1 : 0; break;
                case 4: registers[d] = registers[a] * registers[b]; break;
                case 5: registers[d] = registers[b] == 0 ? 0 : (int) ((long) registers[a] / registers[b]); break;
                case 6: registers[d] = words[Math.floorMod(registers[a] + b, 32)]; break;
                case 7: words[Math.floorMod(registers[a] + b, 32)] = registers[d]; break;
                case 8: return registers[a] == 0 ? b : at + 1;
                default: return b;
            }
            return at + 1;
        }

        int cycles() {
            return all.stream().mapToInt(i -> i.write).max().orElse(0);
        }

        int busy(int kind, int cycle) {
            return (int) all.stream().filter(i -> i.kind == kind && i.issue <= cycle && cycle <= i.write).count();
        }

        int lost(int what) {
            int lost = 0;
            int issueBefore = 0;
            for (Done i : all) {
                for (int cycle = issueBefore + 1; cycle < i.issue; cycle++) {
                    lost += lostTo(i, cycle) == what ? 1 : 0;
                }
                for (int cycle = i.issue + 1; cycle < i.read; cycle++) {
                    lost += what == 4 ? 1 : 0;
                }
                for (int cycle = i.read + 1; cycle < i.access; cycle++) {
                    lost += what == 5 ? 1 : 0;
                }
                for (int cycle = i.done; cycle < i.write; cycle++) {
                    lost += what == 6 ? 1 : 0;
                }
                issueBefore = i.issue;
            }
            return lost;
        }

        int lostTo(Done i, int cycle) {
            if (cycle < i.next) {
                return 0;
            }
            if (cycle < i.fetchedUntil) {
                return 1;
            }
            return destinationWaits(i, cycle) ? 2 : 3;
        }
    }
}
