/** A processor with a scoreboard, in the way of the CDC 6600; README.md tells how it is used. */
public final class ScoreDesk {
    public static final int OK = 0, LONG = 1, BAD = -1, FULL = -2;

    private static final int SET = 0, ADD = 1, SUB = 2, LESS = 3, MUL = 4, DIV = 5;
    private static final int LOAD = 6, STORE = 7, ZERO = 8, GO = 9, HALT = 10;

    private static final int PROGRAM_SIZE = 24, REGISTERS = 8, WORDS = 32, BANKS = 4;
    private static final int KINDS = 6, MOST_UNITS = 3, ALL_UNITS = KINDS * MOST_UNITS, MOST_LATENCY = 8;
    private static final int MOST_PACKS = 4, MOST_FETCH_TIME = 6, MOST_BANK_TIME = 8;
    private static final int MOST_DONE = 60;
    private static final int NONE = -1;

    // The first six stand as time() numbers them. KIND is kept too, because busy() must
    // answer for the latest run even after the program was cleared.
    private static final int NUMBER = 0, ISSUE = 1, READ = 2, DONE = 3, WRITE = 4, UNIT = 5, KIND = 6;
    private static final int RECORD_SIZE = 7, RECORDS_SIZE = MOST_DONE * RECORD_SIZE;

    private static final int NOT_NEXT = 0, FETCHING = 1, SAME_DESTINATION = 2, NO_UNIT = 3;
    private static final int BEFORE_READ = 4, BEFORE_ACCESS = 5, BEFORE_WRITE = 6, LOSSES = 7;

    private final int[] ops = new int[PROGRAM_SIZE];
    private final int[] ds = new int[PROGRAM_SIZE];
    private final int[] as = new int[PROGRAM_SIZE];
    private final int[] bs = new int[PROGRAM_SIZE];
    private int length;

    private final int[] registers = new int[REGISTERS];
    private final int[] words = new int[WORDS];

    private final int[] unitCounts = new int[KINDS];
    private final int[] latencies = new int[KINDS];
    private int stackSize;
    private int fetchTime;
    private int bankTime;

    private final int[] records = new int[RECORDS_SIZE];
    private final int[] losses = new int[LOSSES];
    private int doneCount;
    private int lastWrite;

    // What the scoreboard knows while a run goes on. Cycle 0 stands for "never", as a
    // run's cycles begin with 1.
    private final int[] registerWrites = new int[REGISTERS];
    private final int[] registerReads = new int[REGISTERS];
    private final int[] unitWrites = new int[ALL_UNITS];
    private final int[] bankReady = new int[BANKS];
    private final int[] stack = new int[MOST_PACKS];
    private int oldestSlot;
    private int nextCycle;
    private int lastIssue;
    private int lastAccess;

    public ScoreDesk() {
        equip(0, 1, 1);
        equip(1, 2, 2);
        equip(2, 2, 4);
        equip(3, 1, 8);
        equip(4, 2, 3);
        equip(5, 1, 1);
        stackSize = 2;
        fetchTime = 2;
        bankTime = 4;
    }

    public int add(int op, int d, int a, int b) {
        if (!wellFormed(op, d, a, b)) {
            return BAD;
        }
        if (length >= PROGRAM_SIZE) {
            return FULL;
        }
        ops[length] = op;
        ds[length] = d;
        as[length] = a;
        bs[length] = b;
        length++;
        return length;
    }

    public int clear() {
        int had = length;
        length = 0;
        return had;
    }

    public boolean units(int kind, int many, int latency) {
        if (!within(kind, 0, KINDS - 1) || !within(many, 1, MOST_UNITS) || !within(latency, 1, MOST_LATENCY)) {
            return false;
        }
        equip(kind, many, latency);
        return true;
    }

    public boolean fetch(int size, int time) {
        if (!within(size, 1, MOST_PACKS) || !within(time, 0, MOST_FETCH_TIME)) {
            return false;
        }
        stackSize = size;
        fetchTime = time;
        return true;
    }

    public boolean bank(int time) {
        if (!within(time, 1, MOST_BANK_TIME)) {
            return false;
        }
        bankTime = time;
        return true;
    }

    public boolean poke(int w, int v) {
        if (!within(w, 0, WORDS - 1)) {
            return false;
        }
        words[w] = v;
        return true;
    }

    public boolean set(int r, int v) {
        if (!isRegister(r)) {
            return false;
        }
        registers[r] = v;
        return true;
    }

    public boolean exchange(int w) {
        if (!within(w, 0, WORDS - REGISTERS)) {
            return false;
        }
        for (int r = 0; r < REGISTERS; r++) {
            int kept = registers[r];
            registers[r] = words[w + r];
            words[w + r] = kept;
        }
        return true;
    }

    public int run() {
        beginRun();
        int at = 0;
        for (int k = 0; k < MOST_DONE; k++) {
            if (!goesOnAt(at)) {
                break;
            }
            // Times come first: the bank of an access hangs on a register that the
            // instruction itself may change.
            schedule(k, at);
            at = perform(at);
            doneCount = k + 1;
        }
        return goesOnAt(at) ? LONG : OK;
    }

    public int peek(int w) {
        return within(w, 0, WORDS - 1) ? words[w] : 0;
    }

    public int value(int r) {
        return isRegister(r) ? registers[r] : 0;
    }

    public int done() {
        return doneCount;
    }

    public int cycles() {
        return lastWrite;
    }

    public int time(int k, int what) {
        if (!within(k, 0, doneCount - 1) || !within(what, NUMBER, UNIT)) {
            return BAD;
        }
        return records[k * RECORD_SIZE + what];
    }

    public int lost(int what) {
        return within(what, 0, LOSSES - 1) ? losses[what] : BAD;
    }

    public int busy(int kind, int cycle) {
        if (!within(kind, 0, KINDS - 1)) {
            return BAD;
        }
        int many = 0;
        for (int k = 0; k < doneCount; k++) {
            int base = k * RECORD_SIZE;
            if (records[base + KIND] == kind && within(cycle, records[base + ISSUE], records[base + WRITE])) {
                many++;
            }
        }
        return many;
    }

    private static boolean within(int v, int least, int greatest) {
        return v >= least && v <= greatest;
    }

    private static boolean isRegister(int r) {
        return within(r, 0, REGISTERS - 1);
    }

    private static int greater(int x, int y) {
        return x > y ? x : y;
    }

    private void equip(int kind, int many, int latency) {
        unitCounts[kind] = many;
        latencies[kind] = latency;
    }

    // ---- What an instruction names

    private static boolean wellFormed(int op, int d, int a, int b) {
        switch (op) {
            case SET:
                return isRegister(d);
            case ADD:
            case SUB:
            case LESS:
            case MUL:
            case DIV:
                return isRegister(d) && isRegister(a) && isRegister(b);
            case LOAD:
            case STORE:
                return isRegister(d) && isRegister(a);
            case ZERO:
                return isRegister(a) && within(b, 0, PROGRAM_SIZE - 1);
            case GO:
                return within(b, 0, PROGRAM_SIZE - 1);
            default:
                return op == HALT;
        }
    }

    private static int kindOf(int op) {
        switch (op) {
            case SET:
                return 0;
            case ADD:
            case SUB:
            case LESS:
                return 1;
            case MUL:
                return 2;
            case DIV:
                return 3;
            case LOAD:
            case STORE:
                return 4;
            default:
                return 5;
        }
    }

    private static boolean usesMemory(int op) {
        return op == LOAD || op == STORE;
    }

    private static boolean isJump(int op) {
        return op == ZERO || op == GO;
    }

    private int destinationOf(int at) {
        return within(ops[at], SET, LOAD) ? ds[at] : NONE;
    }

    private int firstSourceOf(int at) {
        return within(ops[at], ADD, ZERO) ? as[at] : NONE;
    }

    private int secondSourceOf(int at) {
        if (ops[at] == STORE) {
            return ds[at];
        }
        return within(ops[at], ADD, DIV) ? bs[at] : NONE;
    }

    private int addressOf(int at) {
        return (registers[as[at]] + bs[at]) & (WORDS - 1);
    }

    // ---- What an instruction does

    private boolean goesOnAt(int at) {
        return within(at, 0, length - 1) && ops[at] != HALT;
    }

    private int perform(int at) {
        int op = ops[at];
        if (op == GO) {
            return bs[at];
        }
        if (op == ZERO) {
            return registers[as[at]] == 0 ? bs[at] : at + 1;
        }
        if (op == STORE) {
            words[addressOf(at)] = registers[ds[at]];
        } else {
            registers[ds[at]] = resultOf(at);
        }
        return at + 1;
    }

    private int resultOf(int at) {
        int op = ops[at];
        if (op == SET) {
            return as[at];
        }
        if (op == LOAD) {
            return words[addressOf(at)];
        }
        return arithmetic(op, registers[as[at]], registers[bs[at]]);
    }

    private static int arithmetic(int op, int x, int y) {
        switch (op) {
            case ADD:
                return x + y;
            case SUB:
                return x - y;
            case LESS:
                return x < y ? 1 : 0;
            case MUL:
                return x * y;
            default:
                return y == 0 ? 0 : x / y;
        }
    }

    // ---- When an instruction is done

    private void beginRun() {
        for (int r = 0; r < REGISTERS; r++) {
            registerWrites[r] = 0;
            registerReads[r] = 0;
        }
        for (int u = 0; u < ALL_UNITS; u++) {
            unitWrites[u] = 0;
        }
        for (int b = 0; b < BANKS; b++) {
            bankReady[b] = 0;
        }
        for (int s = 0; s < MOST_PACKS; s++) {
            stack[s] = NONE;
        }
        for (int what = 0; what < LOSSES; what++) {
            losses[what] = 0;
        }
        oldestSlot = 0;
        nextCycle = 1;
        lastIssue = 0;
        lastAccess = 0;
        doneCount = 0;
        lastWrite = 0;
    }

    private void schedule(int k, int at) {
        int kind = kindOf(ops[at]);
        int destination = destinationOf(at);
        int ready = nextCycle + fetchWait(at >> 1);
        int issue = issueCycle(ready, kind, destination);
        int unit = freeUnit(kind, issue);
        countCyclesWithoutIssue(ready, issue, destination);
        int read = readCycle(at, issue);
        int start = usesMemory(ops[at]) ? accessCycle(at, read) : read;
        int finish = start + latencies[kind];
        int write = writeCycle(finish, destination);
        losses[BEFORE_READ] += read - issue - 1;
        losses[BEFORE_WRITE] += write - finish;

        int base = k * RECORD_SIZE;
        records[base + NUMBER] = at;
        records[base + ISSUE] = issue;
        records[base + READ] = read;
        records[base + DONE] = finish;
        records[base + WRITE] = write;
        records[base + UNIT] = unit;
        records[base + KIND] = kind;

        unitWrites[kind * MOST_UNITS + unit] = write;
        noteRegisters(at, read, write);
        lastIssue = issue;
        lastWrite = greater(lastWrite, write);
        nextCycle = isJump(ops[at]) ? write + 1 : issue + 1;
    }

    private int fetchWait(int pack) {
        for (int s = 0; s < stackSize; s++) {
            if (stack[s] == pack) {
                return 0;
            }
        }
        stack[oldestSlot] = pack;
        oldestSlot = oldestSlot + 1 < stackSize ? oldestSlot + 1 : 0;
        return fetchTime;
    }

    private int issueCycle(int ready, int kind, int destination) {
        int soonest = unitWrites[kind * MOST_UNITS];
        for (int u = 1; u < unitCounts[kind]; u++) {
            int write = unitWrites[kind * MOST_UNITS + u];
            soonest = write < soonest ? write : soonest;
        }
        int issue = greater(ready, soonest + 1);
        if (destination != NONE) {
            issue = greater(issue, registerWrites[destination] + 1);
        }
        return issue;
    }

    private int freeUnit(int kind, int issue) {
        for (int u = 0; u < unitCounts[kind]; u++) {
            if (unitWrites[kind * MOST_UNITS + u] < issue) {
                return u;
            }
        }
        return 0;
    }

    private void countCyclesWithoutIssue(int ready, int issue, int destination) {
        int destinationWrite = destination == NONE ? 0 : registerWrites[destination];
        for (int cycle = lastIssue + 1; cycle < issue; cycle++) {
            if (cycle < nextCycle) {
                losses[NOT_NEXT]++;
            } else if (cycle < ready) {
                losses[FETCHING]++;
            } else if (cycle <= destinationWrite) {
                losses[SAME_DESTINATION]++;
            } else {
                losses[NO_UNIT]++;
            }
        }
    }

    private int readCycle(int at, int issue) {
        int first = firstSourceOf(at);
        int second = secondSourceOf(at);
        int read = issue + 1;
        if (first != NONE) {
            read = greater(read, registerWrites[first] + 1);
        }
        if (second != NONE) {
            read = greater(read, registerWrites[second] + 1);
        }
        return read;
    }

    private int accessCycle(int at, int read) {
        int bank = addressOf(at) & (BANKS - 1);
        int access = greater(read + 1, lastAccess + 1);
        access = greater(access, bankReady[bank]);
        bankReady[bank] = access + bankTime;
        lastAccess = access;
        losses[BEFORE_ACCESS] += access - read - 1;
        return access;
    }

    private int writeCycle(int finish, int destination) {
        return destination == NONE ? finish : greater(finish, registerReads[destination] + 1);
    }

    // An instruction waits only for those before it, so its own registers are noted after
    // all its cycles are known.
    private void noteRegisters(int at, int read, int write) {
        int first = firstSourceOf(at);
        int second = secondSourceOf(at);
        int destination = destinationOf(at);
        if (first != NONE) {
            registerReads[first] = greater(registerReads[first], read);
        }
        if (second != NONE) {
            registerReads[second] = greater(registerReads[second], read);
        }
        // ISSUE waits for the WRITEs before it, so the latest WRITE of a register is the greatest.
        if (destination != NONE) {
            registerWrites[destination] = write;
        }
    }
}
