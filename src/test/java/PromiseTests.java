// One method for each promise of the document; the cycles that are due were worked out by hand from its terms.
public final class PromiseTests {
    private static final int SET = 0, ADD = 1, SUB = 2, LESS = 3, MUL = 4, DIV = 5;
    private static final int LOAD = 6, STORE = 7, ZERO = 8, GO = 9, HALT = 10;
    private static final int MIN = Integer.MIN_VALUE, MAX = Integer.MAX_VALUE;

    private static int promise = 0;
    private static int wrong = 0;

    public static void main(String[] args) {
        promise = 1; newObject(); firstUnits(); firstFetchAndBank();
        promise = 2; add(); addWrong();
        promise = 3; clear();
        promise = 4; units(); unitsWrong();
        promise = 5; fetch(); fetchWrong(); firstFetchedGoes();
        promise = 6; bank(); bankWrong(); banksStartFree();
        promise = 7; poke();
        promise = 8; set();
        promise = 9; exchange();
        promise = 10; runDoes(); runDivides(); runAddresses(); runJumps(); runEnds(); runKeepsState(); runsBeginAfresh();
        promise = 11; peek();
        promise = 12; value();
        promise = 13; done();
        promise = 14; cycles();
        promise = 15; timeOfUnits(); timeOfReads(); timeOfWrites(); timeOfAccesses(); timeOfJumps(); timeWrong();
        promise = 16; lostToIssue(); lostToOneDestinationOrUnit(); lostAfterIssue(); lostWrong();
        promise = 17; busy(); busyStays(); busyWrong();
        promise = 18; badBeforeFull(); sources(); storeHasNoDestination(); beforeTheFirstRun();
        System.out.println(wrong == 0 ? "all answers are as due" : wrong + " answers are not as due");
        if (wrong != 0) {
            System.exit(1);
        }
    }

    private static void due(String call, Object got, Object want) {
        if (!got.equals(want)) {
            wrong++;
            System.out.println("promise " + promise + ": " + call + " answered " + got + ", due is " + want);
        }
    }

    /** Instruction k as "number issue read done write unit". */
    private static void dueTimes(ScoreDesk x, int k, String want) {
        StringBuilder got = new StringBuilder();
        for (int what = 0; what < 6; what++) {
            got.append(what == 0 ? "" : " ").append(x.time(k, what));
        }
        due("times of " + k, got.toString(), want);
    }

    private static void dueLost(ScoreDesk x, String want) {
        StringBuilder got = new StringBuilder();
        for (int what = 0; what < 7; what++) {
            got.append(what == 0 ? "" : " ").append(x.lost(what));
        }
        due("lost", got.toString(), want);
    }

    private static ScoreDesk with(int... instructions) {
        ScoreDesk x = new ScoreDesk();
        for (int i = 0; i < instructions.length; i += 4) {
            due("add", x.add(instructions[i], instructions[i + 1], instructions[i + 2], instructions[i + 3]), i / 4 + 1);
        }
        return x;
    }

    /** An object that never waits for its program, so that other waits are seen alone. */
    private static ScoreDesk unfetched(int... instructions) {
        ScoreDesk x = with(instructions);
        due("fetch(4, 0)", x.fetch(4, 0), true);
        return x;
    }

    // ---- 1

    private static void newObject() {
        ScoreDesk x = new ScoreDesk();
        due("clear()", x.clear(), 0);
        for (int w = 0; w < 32; w++) {
            due("peek(" + w + ")", x.peek(w), 0);
        }
        for (int r = 0; r < 8; r++) {
            due("value(" + r + ")", x.value(r), 0);
        }
        due("done()", x.done(), 0);
        due("cycles()", x.cycles(), 0);
        due("time(0, 0)", x.time(0, 0), ScoreDesk.BAD);
        due("OK", ScoreDesk.OK, 0);
        due("LONG", ScoreDesk.LONG, 1);
        due("BAD", ScoreDesk.BAD, -1);
        due("FULL", ScoreDesk.FULL, -2);
    }

    private static void firstUnits() {
        ScoreDesk x = unfetched(SET, 0, 1, 0, SET, 1, 1, 0);
        x.run();
        dueTimes(x, 0, "0 1 2 3 3 0");
        dueTimes(x, 1, "1 4 5 6 6 0");
        x = unfetched(ADD, 0, 7, 7, SUB, 1, 7, 7, LESS, 2, 7, 7);
        x.run();
        dueTimes(x, 0, "0 1 2 4 4 0");
        dueTimes(x, 1, "1 2 3 5 5 1");
        dueTimes(x, 2, "2 5 6 8 8 0");
        x = unfetched(MUL, 0, 7, 7, MUL, 1, 7, 7, MUL, 2, 7, 7);
        x.run();
        dueTimes(x, 0, "0 1 2 6 6 0");
        dueTimes(x, 1, "1 2 3 7 7 1");
        dueTimes(x, 2, "2 7 8 12 12 0");
        x = unfetched(DIV, 0, 7, 7, DIV, 1, 7, 7);
        x.run();
        dueTimes(x, 0, "0 1 2 10 10 0");
        dueTimes(x, 1, "1 11 12 20 20 0");
        x = unfetched(LOAD, 0, 7, 0, STORE, 1, 7, 1, LOAD, 2, 7, 2);
        x.run();
        dueTimes(x, 0, "0 1 2 6 6 0");
        dueTimes(x, 1, "1 2 3 7 7 1");
        dueTimes(x, 2, "2 7 8 12 12 0");
        x = unfetched(GO, 0, 0, 1, ZERO, 0, 7, 2);
        x.run();
        dueTimes(x, 0, "0 1 2 3 3 0");
        dueTimes(x, 1, "1 4 5 6 6 0");
    }

    private static void firstFetchAndBank() {
        // Packs 0, 1, 0, 2, 0: with a SIZE of 2 pack 0 has gone when it is wanted last.
        ScoreDesk x = packsInTurn();
        x.run();
        due("lost(1)", x.lost(1), 4 * 2);
        x = unfetched(LOAD, 0, 7, 0, LOAD, 1, 7, 4);
        x.run();
        // ACCESS is 3 and 7: DONE is the latency of 3 later.
        due("time(1, 3)", x.time(1, 3), 10);
    }

    // ---- 2

    private static void add() {
        ScoreDesk x = new ScoreDesk();
        due("SET takes any int", x.add(SET, 7, MIN, MAX), 1);
        due("ADD", x.add(ADD, 0, 7, 0), 2);
        due("SUB", x.add(SUB, 0, 0, 7), 3);
        due("LESS", x.add(LESS, 7, 0, 0), 4);
        due("MUL", x.add(MUL, 7, 7, 7), 5);
        due("DIV", x.add(DIV, 0, 0, 0), 6);
        due("LOAD takes any int", x.add(LOAD, 7, 7, MIN), 7);
        due("STORE takes any int", x.add(STORE, 7, 7, MAX), 8);
        due("ZERO names no D", x.add(ZERO, MIN, 7, 23), 9);
        due("ZERO", x.add(ZERO, 8, 0, 0), 10);
        due("GO names no register", x.add(GO, -1, 8, 23), 11);
        due("GO", x.add(GO, MAX, MIN, 0), 12);
        due("HALT names nothing", x.add(HALT, -1, MIN, MAX), 13);
        for (int n = 14; n <= 24; n++) {
            due("add number " + n, x.add(SET, 0, 0, 0), n);
        }
        due("add to 24", x.add(HALT, 0, 0, 0), ScoreDesk.FULL);
        due("clear()", x.clear(), 24);
        due("add after clear", x.add(HALT, 0, 0, 0), 1);
    }

    private static void addWrong() {
        ScoreDesk x = new ScoreDesk();
        for (int op : new int[] {-1, 11, MIN, MAX}) {
            due("op " + op, x.add(op, 0, 0, 0), ScoreDesk.BAD);
        }
        for (int r : new int[] {-1, 8, MIN, MAX}) {
            for (int op = SET; op <= STORE; op++) {
                due("op " + op + " d " + r, x.add(op, r, 0, 0), ScoreDesk.BAD);
            }
            for (int op = ADD; op <= ZERO; op++) {
                due("op " + op + " a " + r, x.add(op, 0, r, 0), ScoreDesk.BAD);
            }
            for (int op = ADD; op <= DIV; op++) {
                due("op " + op + " b " + r, x.add(op, 0, 0, r), ScoreDesk.BAD);
            }
        }
        for (int b : new int[] {-1, 24, MIN, MAX}) {
            due("ZERO to " + b, x.add(ZERO, 0, 0, b), ScoreDesk.BAD);
            due("GO to " + b, x.add(GO, 0, 0, b), ScoreDesk.BAD);
        }
        due("nothing was added", x.clear(), 0);
    }

    // ---- 3

    private static void clear() {
        ScoreDesk x = with(SET, 1, 5, 0, SET, 2, 6, 0);
        x.run();
        due("clear()", x.clear(), 2);
        due("clear() again", x.clear(), 0);
        due("registers stay", x.value(1), 5);
        due("the latest run stays", x.done(), 2);
        dueTimes(x, 1, "1 6 7 8 8 0");
        x.set(1, 9);
        due("run()", x.run(), ScoreDesk.OK);
        due("nothing is run", x.value(1), 9);
        due("done()", x.done(), 0);
    }

    // ---- 4

    private static void units() {
        ScoreDesk x = unfetched(DIV, 0, 7, 7, DIV, 1, 7, 7, DIV, 2, 7, 7, DIV, 3, 7, 7);
        due("units(3, 3, 8)", x.units(3, 3, 8), true);
        x.run();
        dueTimes(x, 0, "0 1 2 10 10 0");
        dueTimes(x, 1, "1 2 3 11 11 1");
        dueTimes(x, 2, "2 3 4 12 12 2");
        dueTimes(x, 3, "3 11 12 20 20 0");
        due("units(3, 1, 1)", x.units(3, 1, 1), true);
        x.run();
        dueTimes(x, 0, "0 1 2 3 3 0");
        dueTimes(x, 1, "1 4 5 6 6 0");
        for (int kind = 0; kind < 6; kind++) {
            due("units of " + kind, x.units(kind, 2, 5), true);
        }
        x.clear();
        for (int op : new int[] {SET, ADD, MUL, DIV, LOAD, GO}) {
            x.clear();
            x.add(op, 0, 0, 1);
            x.run();
            due("DONE of " + op, x.time(0, 3), op == LOAD ? 8 : 7);
        }
    }

    private static void unitsWrong() {
        ScoreDesk x = unfetched(MUL, 0, 7, 7, MUL, 1, 7, 7, MUL, 2, 7, 7);
        for (int kind : new int[] {-1, 6, MIN, MAX}) {
            due("units kind " + kind, x.units(kind, 1, 1), false);
        }
        for (int many : new int[] {0, 4, -1, MIN, MAX}) {
            due("units many " + many, x.units(2, many, 1), false);
        }
        for (int latency : new int[] {0, 9, -1, MIN, MAX}) {
            due("units latency " + latency, x.units(2, 1, latency), false);
        }
        x.run();
        dueTimes(x, 1, "1 2 3 7 7 1");
        dueTimes(x, 2, "2 7 8 12 12 0");
    }

    // ---- 5

    private static void fetch() {
        ScoreDesk x = with(GO, 0, 0, 2, HALT, 0, 0, 0, GO, 0, 0, 3, SET, 0, 0, 0);
        due("fetch(1, 6)", x.fetch(1, 6), true);
        x.run();
        dueTimes(x, 0, "0 7 8 9 9 0");
        dueTimes(x, 1, "2 16 17 18 18 0");
        dueTimes(x, 2, "3 19 20 21 21 0");
        due("fetch(4, 0)", x.fetch(4, 0), true);
        x.run();
        dueTimes(x, 0, "0 1 2 3 3 0");
        dueTimes(x, 1, "2 4 5 6 6 0");
        dueTimes(x, 2, "3 7 8 9 9 0");
        due("fetch(4, 1)", x.fetch(4, 1), true);
        x.run();
        due("the stack is empty at first", x.time(0, 1), 2);
        due("the stack is empty at first", x.lost(1), 2);
    }

    private static void fetchWrong() {
        ScoreDesk x = packsInTurn();
        due("fetch(3, 1)", x.fetch(3, 1), true);
        for (int size : new int[] {0, 5, -1, MIN, MAX}) {
            due("fetch size " + size, x.fetch(size, 2), false);
        }
        for (int time : new int[] {-1, 7, MIN, MAX}) {
            due("fetch time " + time, x.fetch(1, time), false);
        }
        x.run();
        due("lost(1)", x.lost(1), 3);
    }

    /** Packs are wanted in the order 0, 1, 0, 2, 0 and then 2 and 0 in turn. */
    private static ScoreDesk packsInTurn() {
        ScoreDesk x = with(ZERO, 0, 1, 2, GO, 0, 0, 4, ADD, 1, 1, 2, GO, 0, 0, 0, ADD, 3, 3, 2, GO, 0, 0, 0);
        x.set(2, 1);
        return x;
    }

    private static void firstFetchedGoes() {
        ScoreDesk x = packsInTurn();
        x.fetch(2, 6);
        due("run()", x.run(), ScoreDesk.LONG);
        // 0 went for 2, though 1 was used less recently.
        due("lost(1) with 2", x.lost(1), 4 * 6);
        x.fetch(3, 6);
        x.set(1, 0);
        x.run();
        due("lost(1) with 3", x.lost(1), 3 * 6);
    }

    // ---- 6

    private static void bank() {
        ScoreDesk x = unfetched(LOAD, 0, 7, 0, STORE, 1, 7, 28);
        due("bank(8)", x.bank(8), true);
        x.run();
        dueTimes(x, 0, "0 1 2 6 6 0");
        dueTimes(x, 1, "1 2 3 14 14 1");
        due("bank(1)", x.bank(1), true);
        x.run();
        dueTimes(x, 1, "1 2 3 7 7 1");
    }

    private static void bankWrong() {
        ScoreDesk x = unfetched(LOAD, 0, 7, 0, LOAD, 1, 7, 4);
        for (int time : new int[] {0, 9, -1, MIN, MAX}) {
            due("bank(" + time + ")", x.bank(time), false);
        }
        x.run();
        dueTimes(x, 1, "1 2 3 10 10 1");
    }

    private static void banksStartFree() {
        ScoreDesk x = unfetched(LOAD, 0, 7, 3);
        x.bank(8);
        x.run();
        x.run();
        dueTimes(x, 0, "0 1 2 6 6 0");
    }

    // ---- 7, 8, 9

    private static void poke() {
        ScoreDesk x = new ScoreDesk();
        due("poke(0, MIN)", x.poke(0, MIN), true);
        due("poke(31, MAX)", x.poke(31, MAX), true);
        for (int w : new int[] {-1, 32, MIN, MAX}) {
            due("poke(" + w + ", 7)", x.poke(w, 7), false);
        }
        due("peek(0)", x.peek(0), MIN);
        due("peek(31)", x.peek(31), MAX);
        for (int w = 1; w < 31; w++) {
            due("peek(" + w + ")", x.peek(w), 0);
        }
        x.add(LOAD, 1, 0, 31);
        x.run();
        due("a run loads it", x.value(1), MAX);
    }

    private static void set() {
        ScoreDesk x = new ScoreDesk();
        due("set(0, MIN)", x.set(0, MIN), true);
        due("set(7, MAX)", x.set(7, MAX), true);
        for (int r : new int[] {-1, 8, MIN, MAX}) {
            due("set(" + r + ", 7)", x.set(r, 7), false);
        }
        due("value(0)", x.value(0), MIN);
        due("value(7)", x.value(7), MAX);
        for (int r = 1; r < 7; r++) {
            due("value(" + r + ")", x.value(r), 0);
        }
    }

    private static void exchange() {
        for (int w : new int[] {0, 5, 24}) {
            ScoreDesk x = new ScoreDesk();
            for (int r = 0; r < 8; r++) {
                x.set(r, 100 + r);
            }
            for (int i = 0; i < 32; i++) {
                x.poke(i, i);
            }
            due("exchange(" + w + ")", x.exchange(w), true);
            for (int r = 0; r < 8; r++) {
                due("value(" + r + ")", x.value(r), w + r);
            }
            for (int i = 0; i < 32; i++) {
                due("peek(" + i + ")", x.peek(i), i >= w && i < w + 8 ? 100 + i - w : i);
            }
        }
        ScoreDesk x = new ScoreDesk();
        x.set(0, 5);
        for (int w : new int[] {-1, 25, MIN, MAX}) {
            due("exchange(" + w + ")", x.exchange(w), false);
        }
        due("nothing was exchanged", x.value(0), 5);
    }

    // ---- 10

    private static int result(int op, int a, int b) {
        ScoreDesk x = with(op, 3, 1, 2);
        x.set(1, a);
        x.set(2, b);
        due("run()", x.run(), ScoreDesk.OK);
        due("A stays", x.value(1), a);
        due("B stays", x.value(2), b);
        return x.value(3);
    }

    private static void runDoes() {
        ScoreDesk x = with(SET, 3, MIN, 9, HALT, 0, 0, 0);
        due("run()", x.run(), ScoreDesk.OK);
        due("SET", x.value(3), MIN);
        due("ADD", result(ADD, 4, -9), -5);
        due("ADD wraps", result(ADD, MAX, 1), MIN);
        due("SUB", result(SUB, 4, 9), -5);
        due("SUB wraps", result(SUB, MIN, 1), MAX);
        due("LESS", result(LESS, MIN, MAX), 1);
        due("LESS of more", result(LESS, MAX, MIN), 0);
        due("LESS of equals", result(LESS, 3, 3), 0);
        due("MUL", result(MUL, -4, 9), -36);
        due("MUL wraps", result(MUL, 65536, 65537), 65536);
    }

    private static void runDivides() {
        due("DIV", result(DIV, 7, 2), 3);
        due("DIV towards 0", result(DIV, -7, 2), -3);
        due("DIV towards 0", result(DIV, 7, -2), -3);
        due("DIV by 0", result(DIV, 7, 0), 0);
        due("DIV of the least by 0", result(DIV, MIN, 0), 0);
        due("DIV of the least by -1", result(DIV, MIN, -1), MIN);
    }

    private static void runAddresses() {
        ScoreDesk x = with(STORE, 1, 2, 33, LOAD, 2, 2, -30, STORE, 3, 3, 1);
        x.set(1, 77);
        x.set(2, -2);
        x.set(3, MAX);
        x.poke(0, 55);
        due("run()", x.run(), ScoreDesk.OK);
        due("STORE to (-2 + 33) & 31", x.peek(31), 77);
        due("LOAD of (-2 - 30) & 31", x.value(2), 55);
        due("STORE to a wrapped sum", x.peek(0), MAX);
        due("STORE leaves D", x.value(1), 77);
    }

    private static void runJumps() {
        ScoreDesk x = with(ZERO, 0, 1, 2, SET, 2, 5, 0, SET, 3, 6, 0);
        x.run();
        due("ZERO of 0 goes", x.value(2), 0);
        due("ZERO goes on at b", x.value(3), 6);
        x.set(1, -1);
        x.run();
        due("ZERO of another stays", x.value(2), 5);
        x = with(GO, 0, 0, 2, SET, 2, 5, 0, SET, 3, 6, 0);
        x.run();
        due("GO goes", x.value(2), 0);
        due("GO goes on at b", x.value(3), 6);
        x = with(GO, 0, 0, 23, SET, 2, 5, 0);
        due("GO where nothing is", x.run(), ScoreDesk.OK);
        due("done()", x.done(), 1);
        due("value(2)", x.value(2), 0);
    }

    /** Does 60 instructions, and then what stands at number 4. */
    private static ScoreDesk sixty() {
        ScoreDesk x = with(SET, 0, 20, 0, SUB, 0, 0, 1, ZERO, 0, 0, 4, GO, 0, 0, 1);
        x.set(1, 1);
        return x;
    }

    private static void runEnds() {
        due("no program", new ScoreDesk().run(), ScoreDesk.OK);
        ScoreDesk x = sixty();
        due("60, then none", x.run(), ScoreDesk.OK);
        due("done()", x.done(), 60);
        x.add(HALT, 0, 0, 0);
        due("60, then HALT", x.run(), ScoreDesk.OK);
        due("done()", x.done(), 60);
        x = sixty();
        x.add(SET, 7, 3, 0);
        due("60, then another", x.run(), ScoreDesk.LONG);
        due("done()", x.done(), 60);
        due("the 61st is not done", x.value(7), 0);
        x = new ScoreDesk();
        for (int n = 0; n < 24; n++) {
            x.add(SET, 1, n, 0);
        }
        due("after the last of 24", x.run(), ScoreDesk.OK);
        due("done()", x.done(), 24);
        due("value(1)", x.value(1), 23);
    }

    private static void runKeepsState() {
        ScoreDesk x = with(ADD, 1, 1, 2, STORE, 1, 0, 3);
        x.set(1, 10);
        x.set(2, 5);
        x.run();
        x.run();
        due("value(1)", x.value(1), 20);
        due("peek(3)", x.peek(3), 20);
    }

    private static void runsBeginAfresh() {
        // No READ, WRITE or loss of the run before is left.
        ScoreDesk x = unfetched(DIV, 1, 7, 7, ADD, 2, 3, 1, GO, 0, 0, 3, LOAD, 3, 7, 0);
        x.run();
        due("lost(0)", x.lost(0), 2);
        x.clear();
        x.add(SET, 3, 9, 0);
        x.run();
        dueTimes(x, 0, "0 1 2 3 3 0");
        dueLost(x, "0 0 0 0 0 0 0");
        // Nor the places of THE STACK, which has become smaller.
        x = with(GO, 0, 0, 2, HALT, 0, 0, 0, SET, 1, 1, 0, SET, 2, 2, 0);
        x.fetch(4, 1);
        x.run();
        x.fetch(1, 1);
        x.run();
        due("lost(1)", x.lost(1), 2);
    }

    // ---- 11, 12, 13, 14

    private static void peek() {
        ScoreDesk x = new ScoreDesk();
        for (int w = 0; w < 32; w++) {
            x.poke(w, w * w + 1);
        }
        for (int w = 0; w < 32; w++) {
            due("peek(" + w + ")", x.peek(w), w * w + 1);
        }
        for (int w : new int[] {-1, 32, MIN, MAX}) {
            due("peek(" + w + ")", x.peek(w), 0);
        }
    }

    private static void value() {
        ScoreDesk x = new ScoreDesk();
        for (int r = 0; r < 8; r++) {
            x.set(r, r * r + 1);
        }
        for (int r = 0; r < 8; r++) {
            due("value(" + r + ")", x.value(r), r * r + 1);
        }
        for (int r : new int[] {-1, 8, MIN, MAX}) {
            due("value(" + r + ")", x.value(r), 0);
        }
    }

    private static void done() {
        ScoreDesk x = with(SET, 0, 1, 0, GO, 0, 0, 3, SET, 1, 1, 0, HALT, 0, 0, 0);
        x.run();
        due("HALT does not count", x.done(), 2);
        x.clear();
        due("done() after clear", x.done(), 2);
        x.add(HALT, 0, 0, 0);
        x.run();
        due("HALT alone", x.done(), 0);
    }

    private static void cycles() {
        ScoreDesk x = unfetched(DIV, 1, 7, 7, SET, 2, 1, 0);
        x.run();
        due("the greatest, not the last", x.cycles(), 10);
        x.clear();
        due("cycles() after clear", x.cycles(), 10);
        x.run();
        due("cycles() of nothing", x.cycles(), 0);
    }

    // ---- 15

    private static void timeOfUnits() {
        ScoreDesk x = unfetched(DIV, 1, 7, 7, ADD, 2, 1, 1, ADD, 3, 7, 7, ADD, 4, 7, 7);
        x.run();
        dueTimes(x, 0, "0 1 2 10 10 0");
        dueTimes(x, 1, "1 2 11 13 13 0");
        dueTimes(x, 2, "2 3 4 6 6 1");
        // Unit 1 is free from 7 on, unit 0 only later.
        dueTimes(x, 3, "3 7 8 10 10 1");
    }

    private static void timeOfReads() {
        ScoreDesk x = unfetched(SET, 1, 5, 0, ADD, 2, 1, 7, MUL, 3, 7, 2, SET, 1, 9, 0);
        x.run();
        dueTimes(x, 0, "0 1 2 3 3 0");
        dueTimes(x, 1, "1 2 4 6 6 0");
        dueTimes(x, 2, "2 3 7 11 11 0");
        dueTimes(x, 3, "3 4 5 6 6 0");
        x = unfetched(DIV, 1, 7, 7, MUL, 2, 7, 7, ADD, 3, 2, 1, ADD, 4, 1, 2);
        x.run();
        dueTimes(x, 2, "2 3 11 13 13 0");
        dueTimes(x, 3, "3 4 11 13 13 1");
    }

    private static void timeOfWrites() {
        // The SET waits for the later of two READs, which is not that of the later instruction.
        ScoreDesk x = unfetched(DIV, 1, 7, 7, ADD, 2, 3, 1, ADD, 4, 3, 3, SET, 3, 9, 0);
        x.run();
        dueTimes(x, 1, "1 2 11 13 13 0");
        dueTimes(x, 2, "2 3 4 6 6 1");
        dueTimes(x, 3, "3 4 5 6 12 0");
        // An instruction does not wait for its own READ, nor for a later one.
        x = unfetched(ADD, 1, 1, 1, DIV, 2, 1, 1);
        x.units(1, 1, 1);
        x.run();
        dueTimes(x, 0, "0 1 2 3 3 0");
        dueTimes(x, 1, "1 2 4 12 12 0");
        // One destination: ISSUE waits for the WRITE.
        x = unfetched(MUL, 1, 7, 7, SET, 1, 9, 0);
        x.run();
        dueTimes(x, 1, "1 7 8 9 9 0");
    }

    private static void timeOfAccesses() {
        ScoreDesk x = unfetched(LOAD, 1, 0, 0, LOAD, 2, 0, 4, LOAD, 3, 0, 1, STORE, 3, 0, 5);
        x.run();
        dueTimes(x, 0, "0 1 2 6 6 0");
        dueTimes(x, 1, "1 2 3 10 10 1");
        dueTimes(x, 2, "2 7 8 12 12 0");
        dueTimes(x, 3, "3 11 13 17 17 1");
        // Banks differ, but the second ACCESS comes after the first, which waits for its address.
        x = unfetched(DIV, 1, 7, 7, LOAD, 2, 1, 0, LOAD, 3, 7, 1);
        x.run();
        dueTimes(x, 1, "1 2 11 15 15 0");
        dueTimes(x, 2, "2 3 4 16 16 1");
        // The bank is that of the address before the LOAD changes A.
        x = unfetched(LOAD, 1, 1, 0, LOAD, 2, 0, 4);
        x.poke(0, 1);
        x.run();
        dueTimes(x, 1, "1 2 3 10 10 1");
    }

    private static void timeOfJumps() {
        ScoreDesk x = unfetched(SET, 1, 1, 0, ZERO, 0, 1, 3, GO, 0, 0, 3, SET, 2, 2, 0);
        x.run();
        dueTimes(x, 0, "0 1 2 3 3 0");
        dueTimes(x, 1, "1 2 4 5 5 0");
        dueTimes(x, 2, "2 6 7 8 8 0");
        dueTimes(x, 3, "3 9 10 11 11 0");
    }

    private static void timeWrong() {
        ScoreDesk x = with(SET, 1, 1, 0);
        x.run();
        for (int k : new int[] {-1, 1, 59, 60, MIN, MAX}) {
            due("time(" + k + ", 0)", x.time(k, 0), ScoreDesk.BAD);
        }
        for (int what : new int[] {-1, 6, 7, MIN, MAX}) {
            due("time(0, " + what + ")", x.time(0, what), ScoreDesk.BAD);
        }
        x.clear();
        due("time(0, 4) after clear", x.time(0, 4), 5);
        x.run();
        due("time(0, 0) of nothing", x.time(0, 0), ScoreDesk.BAD);
    }

    // ---- 16

    private static void lostToIssue() {
        ScoreDesk x = with(ZERO, 0, 1, 2, HALT, 0, 0, 0, SET, 2, 2, 0);
        x.run();
        // 1, 2 fetch; 3 ISSUE; 4, 5 wait for the WRITE; 6, 7 fetch; 8 ISSUE.
        dueTimes(x, 1, "2 8 9 10 10 0");
        dueLost(x, "2 4 0 0 0 0 0");
        // What is done after the last ISSUE loses nothing.
        x = with(GO, 0, 0, 1, HALT, 0, 0, 0);
        x.run();
        dueLost(x, "0 2 0 0 0 0 0");
    }

    private static void lostToOneDestinationOrUnit() {
        ScoreDesk x = unfetched(MUL, 1, 7, 7, SET, 1, 9, 0);
        x.run();
        dueLost(x, "0 0 5 0 0 0 0");
        x = unfetched(DIV, 1, 7, 7, DIV, 1, 7, 7);
        x.run();
        dueLost(x, "0 0 9 0 0 0 0");
        // The destination is free from 5 on, the unit from 11.
        x = unfetched(DIV, 2, 7, 7, SET, 1, 9, 0, DIV, 1, 7, 7);
        x.run();
        dueLost(x, "0 0 2 6 0 0 0");
        // Fetching goes before the others: 1 to 3 fetch, 4 and 5 ISSUE, 6 to 8 fetch, 9 to 13 wait for the WRITE.
        x = with(DIV, 1, 7, 7, SET, 2, 9, 0, DIV, 1, 7, 7);
        x.fetch(1, 3);
        x.run();
        dueTimes(x, 0, "0 4 5 13 13 0");
        dueTimes(x, 1, "1 5 6 7 7 0");
        dueTimes(x, 2, "2 14 15 23 23 0");
        dueLost(x, "0 6 5 0 0 0 0");
    }

    private static void lostAfterIssue() {
        ScoreDesk x = unfetched(SET, 1, 5, 0, ADD, 2, 1, 1, MUL, 3, 2, 1, SET, 1, 9, 0);
        x.run();
        dueTimes(x, 3, "3 4 5 6 8 0");
        dueLost(x, "0 0 0 0 4 0 2");
        x = unfetched(LOAD, 1, 0, 0, LOAD, 2, 0, 4, LOAD, 3, 0, 1, STORE, 3, 0, 5);
        x.run();
        dueLost(x, "0 0 0 7 1 3 0");
        x.clear();
        dueLost(x, "0 0 0 7 1 3 0");
        x.run();
        dueLost(x, "0 0 0 0 0 0 0");
    }

    private static void lostWrong() {
        ScoreDesk x = new ScoreDesk();
        for (int what : new int[] {-1, 7, MIN, MAX}) {
            due("lost(" + what + ")", x.lost(what), ScoreDesk.BAD);
        }
    }

    // ---- 17

    private static void busy() {
        ScoreDesk x = unfetched(DIV, 1, 7, 7, ADD, 2, 1, 1, ADD, 3, 7, 7, GO, 0, 0, 4);
        x.run();
        int[] addBusy = {0, 0, 1, 2, 2, 2, 2, 1, 1, 1, 1, 1, 1, 1, 0};
        for (int cycle = 0; cycle < addBusy.length; cycle++) {
            due("busy(1, " + cycle + ")", x.busy(1, cycle), addBusy[cycle]);
            due("busy(3, " + cycle + ")", x.busy(3, cycle), cycle >= 1 && cycle <= 10 ? 1 : 0);
            due("busy(5, " + cycle + ")", x.busy(5, cycle), cycle >= 4 && cycle <= 6 ? 1 : 0);
            due("busy(0, " + cycle + ")", x.busy(0, cycle), 0);
            due("busy(2, " + cycle + ")", x.busy(2, cycle), 0);
            due("busy(4, " + cycle + ")", x.busy(4, cycle), 0);
        }
    }

    private static void busyStays() {
        ScoreDesk x = unfetched(MUL, 1, 7, 7);
        x.run();
        x.clear();
        x.add(DIV, 1, 1, 1);
        x.units(2, 1, 1);
        due("busy(2, 6)", x.busy(2, 6), 1);
        due("busy(2, 7)", x.busy(2, 7), 0);
        due("busy(3, 6)", x.busy(3, 6), 0);
        x.run();
        due("busy(2, 6) after another run", x.busy(2, 6), 0);
        due("busy(3, 6) after another run", x.busy(3, 6), 1);
    }

    private static void busyWrong() {
        ScoreDesk x = unfetched(SET, 1, 1, 0);
        x.run();
        for (int kind : new int[] {-1, 6, MIN, MAX}) {
            due("busy(" + kind + ", 1)", x.busy(kind, 1), ScoreDesk.BAD);
        }
        for (int cycle : new int[] {0, -1, 4, MIN, MAX}) {
            due("busy(0, " + cycle + ")", x.busy(0, cycle), 0);
        }
    }

    // ---- 18

    private static void badBeforeFull() {
        ScoreDesk x = new ScoreDesk();
        for (int n = 0; n < 24; n++) {
            x.add(HALT, 0, 0, 0);
        }
        due("add of op 11 to 24", x.add(11, 0, 0, 0), ScoreDesk.BAD);
        due("add of register 8 to 24", x.add(SET, 8, 0, 0), ScoreDesk.BAD);
        due("add of GO 24 to 24", x.add(GO, 0, 0, 24), ScoreDesk.BAD);
        due("add to 24", x.add(SET, 0, 0, 0), ScoreDesk.FULL);
        due("clear()", x.clear(), 24);
    }

    /** The READ of an instruction that is issued in cycle 2, while register 3 is written in cycle 10. */
    private static int readAfterDivide(int op, int d, int a, int b) {
        ScoreDesk x = unfetched(DIV, 3, 7, 7, op, d, a, b);
        x.run();
        due("ISSUE", x.time(1, 1), 2);
        return x.time(1, 2);
    }

    private static void sources() {
        due("SET has no source", readAfterDivide(SET, 1, 3, 3), 3);
        for (int op = ADD; op <= MUL; op++) {
            due("A of " + op, readAfterDivide(op, 1, 3, 2), 11);
            due("B of " + op, readAfterDivide(op, 1, 2, 3), 11);
            due("D of " + op + " only", readAfterDivide(op, 1, 2, 2), 3);
        }
        due("A of LOAD", readAfterDivide(LOAD, 1, 3, 0), 11);
        due("b of LOAD is an int", readAfterDivide(LOAD, 1, 2, 3), 3);
        due("A of STORE", readAfterDivide(STORE, 1, 3, 0), 11);
        due("D of STORE", readAfterDivide(STORE, 3, 2, 0), 11);
        due("b of STORE is an int", readAfterDivide(STORE, 1, 2, 3), 3);
        due("A of ZERO", readAfterDivide(ZERO, 1, 3, 2), 11);
        due("d and b of ZERO are no sources", readAfterDivide(ZERO, 3, 2, 3), 3);
        due("GO has no source", readAfterDivide(GO, 3, 3, 3), 3);
        ScoreDesk x = unfetched(SET, 3, 1, 0, DIV, 1, 3, 7, DIV, 2, 7, 1);
        x.units(3, 2, 8);
        x.run();
        due("A of DIV", x.time(1, 2), 4);
        due("B of DIV", x.time(2, 2), 13);
    }

    private static void storeHasNoDestination() {
        ScoreDesk x = unfetched(DIV, 2, 7, 7, STORE, 1, 2, 0, SET, 1, 5, 0, SET, 3, 5, 0);
        x.run();
        // The SET is issued at once, and is written after the READ of the STORE.
        dueTimes(x, 1, "1 2 11 15 15 0");
        dueTimes(x, 2, "2 3 4 5 12 0");
        // Nor does the STORE wait for a READ of its D before.
        x = unfetched(DIV, 2, 7, 7, ADD, 3, 1, 2, STORE, 1, 7, 0);
        x.run();
        dueTimes(x, 2, "2 3 4 8 8 0");
    }

    private static void beforeTheFirstRun() {
        ScoreDesk x = with(SET, 1, 1, 0);
        due("done()", x.done(), 0);
        dueLost(x, "0 0 0 0 0 0 0");
        for (int kind = 0; kind < 6; kind++) {
            due("busy(" + kind + ", 1)", x.busy(kind, 1), 0);
            due("busy(" + kind + ", 0)", x.busy(kind, 0), 0);
        }
        due("busy(6, 1)", x.busy(6, 1), ScoreDesk.BAD);
        due("lost(7)", x.lost(7), ScoreDesk.BAD);
    }
}
