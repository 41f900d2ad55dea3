import java.util.function.Consumer;

// One test for each sentence of the document that names a boundary; the sentence stands beside its test.
// No object is asked more than the 512 calls that the document promises.
public final class BoundaryTests {
    private static final int SET = 0, ADD = 1, SUB = 2, LESS = 3, MUL = 4, DIV = 5;
    private static final int LOAD = 6, STORE = 7, ZERO = 8, GO = 9, HALT = 10;
    private static final int MIN = Integer.MIN_VALUE, MAX = Integer.MAX_VALUE;
    private static final int OK = 0, LONG = 1, BAD = -1, FULL = -2;

    private static String sentence = "";
    private static int tests = 0;
    private static int wrong = 0;

    public static void main(String[] args) {
        programAndState();
        operations();
        runs();
        settings();
        cyclesOfInstructions();
        lostCycles();
        promisesOneToThree();
        promisesFourToNine();
        promisesTenToFourteen();
        promisesFifteenToEighteen();
        System.out.println(tests + " tests, " + wrong + " answers not as due");
        if (wrong != 0) {
            System.exit(1);
        }
    }

    private static void test(String words, Runnable body) {
        sentence = words;
        tests++;
        body.run();
    }

    private static void due(String call, Object got, Object want) {
        if (!got.equals(want)) {
            wrong++;
            System.out.println("\"" + sentence + "\": " + call + " answered " + got + ", due is " + want);
        }
    }

    /** Instruction k as "number issue read done write unit". */
    private static void dueTimes(ScoreDesk x, int k, String want) {
        StringBuilder got = new StringBuilder();
        for (int what = 0; what < 6; what++) {
            got.append(what == 0 ? "" : " ").append(x.time(k, what));
        }
        due("times of " + k, got.toString(), want);
    }

    private static void dueLost(ScoreDesk x, String want) {
        StringBuilder got = new StringBuilder();
        for (int what = 0; what < 7; what++) {
            got.append(what == 0 ? "" : " ").append(x.lost(what));
        }
        due("lost", got.toString(), want);
    }

    private static ScoreDesk with(int... instructions) {
        ScoreDesk x = new ScoreDesk();
        for (int i = 0; i < instructions.length; i += 4) {
            due("add", x.add(instructions[i], instructions[i + 1], instructions[i + 2], instructions[i + 3]), i / 4 + 1);
        }
        return x;
    }

    /** An object that never waits for its program, so that other waits are seen alone. */
    private static ScoreDesk unfetched(int... instructions) {
        ScoreDesk x = with(instructions);
        due("fetch(4, 0)", x.fetch(4, 0), true);
        return x;
    }

    /** The last two look to be inside if they are cut to a byte or a short. */
    private static int[] outside(int least, int greatest) {
        return new int[] {least - 1, greatest + 1, MIN, MAX, 256 + greatest, 65536 + greatest};
    }

    /** Adds GOs that want the packs in this order, each pack at most twice, and then a HALT. */
    private static void addPath(ScoreDesk x, int... packs) {
        int[] target = new int[24];
        int[] visits = new int[11];
        int before = -1;
        for (int pack : packs) {
            int number = 2 * pack + visits[pack]++;
            if (before >= 0) {
                target[before] = number;
            }
            before = number;
        }
        target[before] = 23;
        for (int n = 0; n < 24; n++) {
            x.add(n == 0 || target[n] > 0 ? GO : HALT, 0, 0, target[n]);
        }
    }

    /** How many packs are fetched on this path. */
    private static int fetched(int size, int... packs) {
        ScoreDesk x = new ScoreDesk();
        addPath(x, packs);
        x.fetch(size, 6);
        x.run();
        due("done()", x.done(), packs.length);
        return x.lost(1) / 6;
    }

    // ---- Refused calls

    /** An object with no setting as at first, with a program that shows each, and a run behind it. */
    private static ScoreDesk prepared() {
        ScoreDesk x = new ScoreDesk();
        for (int kind = 0; kind < 6; kind++) {
            x.units(kind, 2, 6);
        }
        x.fetch(3, 3);
        x.bank(5);
        for (int r = 0; r < 8; r++) {
            x.set(r, 1000 + r);
        }
        for (int w = 0; w < 32; w++) {
            x.poke(w, 2000 + w);
        }
        for (int op : new int[] {SET, ADD, MUL, DIV, LOAD}) {
            for (int i = 0; i < 3; i++) {
                x.add(op, i, 7, op == LOAD ? 4 * i : 6);
            }
        }
        x.add(STORE, 5, 7, 0);
        x.add(GO, 0, 0, 17);
        x.add(SUB, 7, 7, 6);
        x.run();
        return x;
    }

    /** All that the object can tell: of the latest run, its state, its program and its settings. */
    private static String story(ScoreDesk x) {
        StringBuilder text = new StringBuilder();
        tellRun(x, text);
        for (int kind = 0; kind < 6; kind++) {
            for (int cycle = 5; cycle < 50; cycle += 11) {
                text.append(x.busy(kind, cycle)).append(' ');
            }
        }
        text.append(x.run()).append(" again ");
        tellRun(x, text);
        text.append(x.clear()).append(' ');
        // 12, 11, 10 or 9 packs are fetched, by the SIZE.
        addPath(x, 0, 1, 0, 2, 3, 4, 2, 5, 6, 7, 8, 5);
        text.append(x.run()).append(' ').append(x.lost(1)).append(' ').append(x.cycles());
        return text.toString();
    }

    private static void tellRun(ScoreDesk x, StringBuilder text) {
        text.append(x.done()).append(' ').append(x.cycles()).append(' ');
        for (int k = 0; k < 18; k++) {
            for (int what = 1; what < 6; what += 3) {
                text.append(x.time(k, what)).append(' ');
            }
        }
        for (int what = 0; what < 7; what++) {
            text.append(x.lost(what)).append(' ');
        }
        for (int r = 0; r < 8; r++) {
            text.append(x.value(r)).append(' ');
        }
        for (int w = 0; w < 32; w++) {
            text.append(x.peek(w)).append(' ');
        }
    }

    private static void changesNothing(String calls, Consumer<ScoreDesk> refused) {
        ScoreDesk x = prepared();
        refused.accept(x);
        due("all after " + calls, story(x), story(prepared()));
    }

    private static void changes(String call, Consumer<ScoreDesk> accepted) {
        ScoreDesk x = prepared();
        accepted.accept(x);
        due("a change is told after " + call, !story(x).equals(story(prepared())), true);
    }

    /** The comparison above is worth something only if the story tells of every change. */
    private static void storyTellsEachChange() {
        for (int kind = 0; kind < 6; kind++) {
            int k = kind;
            for (int latency : new int[] {5, 7}) {
                changes("units(" + k + ", 2, " + latency + ")", x -> due("units", x.units(k, 2, latency), true));
            }
            // No two jumps are ever under way, so units of kind 5 beyond the first are never seen.
            for (int many = 1; many <= 3 && k < 5; many += 2) {
                int m = many;
                changes("units(" + k + ", " + m + ", 6)", x -> due("units", x.units(k, m, 6), true));
            }
        }
        for (int size : new int[] {1, 2, 4}) {
            changes("fetch(" + size + ", 3)", x -> due("fetch", x.fetch(size, 3), true));
        }
        for (int time : new int[] {2, 4}) {
            changes("fetch(3, " + time + ")", x -> due("fetch", x.fetch(3, time), true));
        }
        for (int time : new int[] {4, 6}) {
            changes("bank(" + time + ")", x -> due("bank", x.bank(time), true));
        }
        changes("poke(31, 0)", x -> due("poke", x.poke(31, 0), true));
        changes("set(7, 0)", x -> due("set", x.set(7, 0), true));
        changes("exchange(24)", x -> due("exchange", x.exchange(24), true));
        changes("add", x -> due("add", x.add(HALT, 0, 0, 0), 19));
    }

    // ---- Terms: the program, registers and memory

    private static void programAndState() {
        test("A PROGRAM has up to 24 INSTRUCTIONS", BoundaryTests::twentyFour);
        test("numbered from 0", BoundaryTests::numberedFromZero);
        test("There are REGISTERS 0..7", BoundaryTests::everyRegister);
        test("a MEMORY of 32 WORDS, 0..31", BoundaryTests::everyWord);
        test("all ints", BoundaryTests::allInts);
        test("at first 0", BoundaryTests::atFirstZero);
        test("word w is in BANK w & 3", BoundaryTests::everyBank);
    }

    private static void twentyFour() {
        ScoreDesk x = new ScoreDesk();
        for (int n = 1; n <= 24; n++) {
            due("add number " + n, x.add(SET, 1, n, 0), n);
        }
        due("add to 24", x.add(SET, 1, 99, 0), FULL);
        due("add to 24 again", x.add(SET, 2, 99, 0), FULL);
        x.run();
        due("done()", x.done(), 24);
        due("the last one is as it was added", x.value(1), 24);
        due("what was refused is not there", x.value(2), 0);
    }

    private static void numberedFromZero() {
        ScoreDesk x = new ScoreDesk();
        for (int n = 0; n < 24; n++) {
            x.add(SET, n & 7, n, 0);
        }
        x.run();
        for (int k = 0; k < 24; k++) {
            due("time(" + k + ", 0)", x.time(k, 0), k);
        }
    }

    private static int worth(int op, int a, int b) {
        switch (op) {
            case ADD: return a + b;
            case SUB: return a - b;
            case LESS: return a < b ? 1 : 0;
            case MUL: return a * b;
            default: return a / b;
        }
    }

    private static void everyRegister() {
        int[] first = {3, -5, 7, -11, 13, -17, 19, -23};
        for (int n = 0; n < 512; n++) {
            int d = n & 7, a = n >> 3 & 7, b = n >> 6;
            for (int op = ADD; op <= DIV; op++) {
                ScoreDesk x = with(op, d, a, b);
                for (int r = 0; r < 8; r++) {
                    due("set(" + r + ")", x.set(r, first[r]), true);
                }
                x.run();
                for (int r = 0; r < 8; r++) {
                    int want = r == d ? worth(op, first[a], first[b]) : first[r];
                    due("op " + op + " of " + d + ", " + a + ", " + b + ": value(" + r + ")", x.value(r), want);
                }
            }
        }
        for (int r = 0; r < 8; r++) {
            everyRegisterOfOthers(r);
        }
    }

    private static void everyRegisterOfOthers(int r) {
        for (int a = 0; a < 8; a++) {
            ScoreDesk x = with(SET, r, 40, 0, STORE, r, a, 0, LOAD, r, a, 1, ZERO, 0, r, 23, SET, r, 50, 0);
            x.set(a, 10);
            x.poke(11, 60);
            x.poke(40 + 1 & 31, 60);
            x.run();
            due("STORE of " + r + " at " + a, x.peek(r == a ? 40 & 31 : 10), 40);
            due("ZERO of " + r, x.done(), 5);
            due("SET of " + r, x.value(r), 50);
            x.poke(11, 0);
            x.poke(40 + 1 & 31, 0);
            x.set(a, 10);
            x.run();
            due("ZERO of " + r, x.done(), 4);
            due("LOAD of " + r + " at " + a, x.value(r), 0);
        }
    }

    private static void everyWord() {
        for (int w = 0; w < 32; w++) {
            ScoreDesk x = with(LOAD, 1, 0, w, STORE, 2, 0, w);
            for (int i = 0; i < 32; i++) {
                due("poke(" + i + ")", x.poke(i, 100 + i), true);
            }
            x.set(2, -9);
            x.run();
            due("LOAD of word " + w, x.value(1), 100 + w);
            for (int i = 0; i < 32; i++) {
                due("STORE to word " + w + ": peek(" + i + ")", x.peek(i), i == w ? -9 : 100 + i);
            }
        }
    }

    private static void allInts() {
        for (int v : new int[] {MIN, MIN + 1, -65536, -1, 0, 1, 255, 256, 65536, MAX - 1, MAX}) {
            ScoreDesk x = with(SET, 1, v, 0, STORE, 2, 0, 5, LOAD, 3, 0, 6);
            due("set(2, " + v + ")", x.set(2, v), true);
            due("poke(6, " + v + ")", x.poke(6, v), true);
            x.run();
            due("SET", x.value(1), v);
            due("value(2)", x.value(2), v);
            due("STORE", x.peek(5), v);
            due("peek(6)", x.peek(6), v);
            due("LOAD", x.value(3), v);
        }
    }

    private static void atFirstZero() {
        ScoreDesk x = new ScoreDesk();
        for (int r = 0; r < 8; r++) {
            due("value(" + r + ")", x.value(r), 0);
        }
        for (int w = 0; w < 32; w++) {
            due("peek(" + w + ")", x.peek(w), 0);
        }
        for (int r = 0; r < 8; r++) {
            x = with(ZERO, 0, r, 2, HALT, 0, 0, 0, SET, 1, 1, 0);
            x.run();
            due("a run finds register " + r + " 0", x.done(), 2);
        }
    }

    /** ACCESS of the first is 3; of the second 4, or 11 if it is to the same bank. */
    private static void everyBank() {
        for (int v = 0; v < 32; v++) {
            for (int w = 0; w < 32; w++) {
                ScoreDesk x = unfetched(LOAD, 1, 0, v, STORE, 2, 0, w);
                x.bank(8);
                x.run();
                due("DONE of " + w + " after " + v, x.time(1, 3), (v - w) % 4 == 0 ? 14 : 7);
            }
        }
        // The word counts, not the sum that names it.
        int[][] sums = {{-1, 0, 3}, {0, -1, 3}, {MIN, 0, 0}, {MAX, 0, 3}, {MAX, 1, 0}, {31, 1, 0}, {-2, 33, 3}, {MIN, -2, 2}};
        for (int[] s : sums) {
            for (int bank = 0; bank < 4; bank++) {
                ScoreDesk x = unfetched(STORE, 2, 1, s[1], LOAD, 3, 0, bank);
                x.set(1, s[0]);
                x.bank(8);
                x.run();
                due("DONE in " + bank + " after " + s[0] + " + " + s[1], x.time(1, 3), bank == s[2] ? 14 : 7);
            }
        }
    }

    // ---- Terms: what the instructions do

    private static void operations() {
        test("arithmetic wraps", BoundaryTests::wraps);
        test("1 if A < B, else 0", BoundaryTests::lessAtEdges);
        test("D = A / B, towards 0", BoundaryTests::dividesTowardsZero);
        test("0 if B is 0", BoundaryTests::dividesByZero);
        test("-2147483648 by -1 is itself", BoundaryTests::dividesTheLeast);
        test("LOAD D = word (A + the int b) & 31", BoundaryTests::loadsAtEdges);
        test("STORE word (A + the int b) & 31 = D", BoundaryTests::storesAtEdges);
        test("ZERO: on at instruction b, if A is 0", BoundaryTests::zeroAtEdges);
        test("GO: on at b", BoundaryTests::goAtEdges);
        test("b 0..23", BoundaryTests::jumpsBeyondTheProgram);
    }

    private static void dueResult(int op, int a, int b, int want) {
        ScoreDesk x = with(op, 3, 1, 2);
        x.set(1, a);
        x.set(2, b);
        due("run()", x.run(), OK);
        due("op " + op + " of " + a + ", " + b, x.value(3), want);
    }

    private static void wraps() {
        dueResult(ADD, MAX, 1, MIN);
        dueResult(ADD, MIN, -1, MAX);
        dueResult(ADD, MIN, MIN, 0);
        dueResult(ADD, MAX, MAX, -2);
        dueResult(SUB, MIN, 1, MAX);
        dueResult(SUB, MAX, -1, MIN);
        dueResult(SUB, 0, MIN, MIN);
        dueResult(SUB, -1, MIN, MAX);
        dueResult(MUL, MIN, -1, MIN);
        dueResult(MUL, 65536, 65536, 0);
        dueResult(MUL, 65536, 32768, MIN);
        dueResult(MUL, MAX, MAX, 1);
        dueResult(MUL, MAX, 2, -2);
    }

    private static void lessAtEdges() {
        int[] inOrder = {MIN, MIN + 1, -1, 0, 1, MAX - 1, MAX};
        for (int i = 0; i < inOrder.length; i++) {
            for (int j = 0; j < inOrder.length; j++) {
                dueResult(LESS, inOrder[i], inOrder[j], i < j ? 1 : 0);
            }
        }
    }

    private static void dividesTowardsZero() {
        dueResult(DIV, 7, 2, 3);
        dueResult(DIV, -7, 2, -3);
        dueResult(DIV, 7, -2, -3);
        dueResult(DIV, -7, -2, 3);
        dueResult(DIV, -1, 2, 0);
        dueResult(DIV, 1, -2, 0);
        dueResult(DIV, 0, -5, 0);
        dueResult(DIV, MIN, 2, -1073741824);
        dueResult(DIV, MIN, MAX, -1);
        dueResult(DIV, MAX, MIN, 0);
        dueResult(DIV, MIN, MIN, 1);
    }

    private static void dividesByZero() {
        for (int a : new int[] {MIN, -1, 0, 1, MAX}) {
            dueResult(DIV, a, 0, 0);
        }
        ScoreDesk x = unfetched(DIV, 1, 2, 3);
        x.set(1, 77);
        x.set(2, 5);
        x.run();
        due("D becomes 0", x.value(1), 0);
        dueTimes(x, 0, "0 1 2 10 10 0");
    }

    private static void dividesTheLeast() {
        dueResult(DIV, MIN, -1, MIN);
        dueResult(DIV, MIN, 1, MIN);
        dueResult(DIV, MIN + 1, -1, MAX);
        dueResult(DIV, MAX, -1, MIN + 1);
    }

    /** A, b and the word that they name. */
    private static int[][] addresses() {
        return new int[][] {{0, 0, 0}, {0, 31, 31}, {0, 32, 0}, {31, 0, 31}, {32, 0, 0}, {31, 1, 0}, {0, -1, 31}, {-1, 0, 31},
            {-32, 0, 0}, {0, -33, 31}, {-1, 1, 0}, {MAX, 0, 31}, {0, MAX, 31}, {MAX, 1, 0}, {MIN, 0, 0}, {0, MIN, 0},
            {MIN, -1, 31}, {MIN, MIN, 0}, {MAX, MAX, 30}, {16, 47, 31}, {63, 64, 31}};
    }

    private static void loadsAtEdges() {
        for (int[] s : addresses()) {
            ScoreDesk x = with(LOAD, 2, 1, s[1], LOAD, 1, 1, s[1]);
            x.set(1, s[0]);
            for (int w = 0; w < 32; w++) {
                x.poke(w, 100 + w);
            }
            x.run();
            due("LOAD at " + s[0] + " + " + s[1], x.value(2), 100 + s[2]);
            due("LOAD of A itself at " + s[0] + " + " + s[1], x.value(1), 100 + s[2]);
        }
    }

    private static void storesAtEdges() {
        for (int[] s : addresses()) {
            for (int d = 1; d <= 2; d++) {
                ScoreDesk x = with(STORE, d, 1, s[1]);
                for (int w = 0; w < 32; w++) {
                    x.poke(w, 100 + w);
                }
                x.set(1, s[0]);
                x.set(2, -7);
                x.run();
                for (int w = 0; w < 32; w++) {
                    int stored = d == 1 ? s[0] : -7;
                    due("STORE at " + s[0] + " + " + s[1] + ": peek(" + w + ")", x.peek(w), w == s[2] ? stored : 100 + w);
                }
            }
        }
    }

    private static ScoreDesk fullWithJump(int op, int at, int b) {
        ScoreDesk x = new ScoreDesk();
        for (int n = 0; n < 24; n++) {
            x.add(n == at ? op : ADD, 1, 2, n == at ? b : 2);
        }
        return x;
    }

    private static void zeroAtEdges() {
        for (int a : new int[] {0, 1, -1, MIN, MAX, 256, 65536}) {
            ScoreDesk x = with(ZERO, 0, 1, 2, SET, 2, 5, 0, SET, 3, 6, 0);
            x.set(1, a);
            x.run();
            due("A of " + a + ": done()", x.done(), a == 0 ? 2 : 3);
            due("A of " + a + ": value(2)", x.value(2), a == 0 ? 0 : 5);
            due("A of " + a + ": value(3)", x.value(3), 6);
        }
        ScoreDesk x = fullWithJump(ZERO, 0, 23);
        due("ZERO to 23", x.run(), OK);
        due("ZERO to 23: done()", x.done(), 2);
        due("ZERO to 23: time(1, 0)", x.time(1, 0), 23);
        x = fullWithJump(ZERO, 23, 0);
        due("ZERO to 0", x.run(), LONG);
        due("ZERO to 0: time(24, 0)", x.time(24, 0), 0);
        x.set(2, 1);
        due("ZERO at 23 that does not go", x.run(), OK);
        due("ZERO at 23 that does not go: done()", x.done(), 24);
        x = with(ZERO, 0, 1, 0);
        due("ZERO to itself", x.run(), LONG);
        due("ZERO to itself: done()", x.done(), 60);
    }

    private static void goAtEdges() {
        ScoreDesk x = fullWithJump(GO, 0, 23);
        due("GO to 23", x.run(), OK);
        due("GO to 23: done()", x.done(), 2);
        due("GO to 23: time(1, 0)", x.time(1, 0), 23);
        x = fullWithJump(GO, 23, 0);
        due("GO to 0", x.run(), LONG);
        due("GO to 0: time(24, 0)", x.time(24, 0), 0);
        x = with(GO, 0, 0, 0);
        x.set(0, 1);
        due("GO to itself", x.run(), LONG);
        due("GO to itself: time(59, 0)", x.time(59, 0), 0);
        x = with(GO, 0, 0, 1, SET, 1, 1, 0);
        due("GO to the next one", x.run(), OK);
        due("GO to the next one: done()", x.done(), 2);
    }

    private static void jumpsBeyondTheProgram() {
        for (int op : new int[] {ZERO, GO}) {
            for (int b = 1; b < 24; b++) {
                ScoreDesk x = with(op, 0, 0, b);
                due("op " + op + " to " + b, x.run(), OK);
                due("op " + op + " to " + b + ": done()", x.done(), 1);
            }
            for (int b : outside(0, 23)) {
                due("op " + op + " to " + b, new ScoreDesk().add(op, 0, 0, b), BAD);
            }
        }
    }

    // ---- Terms: the end of a run, the stack

    private static void runs() {
        test("it ends at a HALT", BoundaryTests::endsAtHalt);
        test("where there is no instruction", BoundaryTests::endsWhereNothingIs);
        test("or when 60 were done (HALTs do not count) and another one would be: it is LONG then", BoundaryTests::endsAtSixty);
        test("Instructions 2 w and 2 w + 1 are in PACK w of the program", BoundaryTests::packsOfTwo);
        test("at most as many as its SIZE", BoundaryTests::stackHoldsItsSize);
        test("it is empty when a run begins", BoundaryTests::stackBeginsEmpty);
        test("the one that was fetched first goes if there are too many", BoundaryTests::firstFetchedGoes);
    }

    private static void endsAtHalt() {
        ScoreDesk x = with(HALT, 0, 0, 0, SET, 1, 1, 0);
        due("HALT at 0", x.run(), OK);
        due("HALT at 0: done()", x.done(), 0);
        due("HALT at 0: cycles()", x.cycles(), 0);
        due("HALT at 0: time(0, 0)", x.time(0, 0), BAD);
        dueLost(x, "0 0 0 0 0 0 0");
        x = fullWithJump(HALT, 23, 0);
        due("HALT at 23", x.run(), OK);
        due("HALT at 23: done()", x.done(), 23);
        // It is not done: it has no unit, and its pack is not fetched.
        x = with(SET, 1, 1, 0, GO, 0, 0, 2, HALT, 0, 0, 0, SET, 2, 2, 0);
        due("HALT at 2", x.run(), OK);
        due("HALT at 2: value(2)", x.value(2), 0);
        due("HALT at 2: time(2, 0)", x.time(2, 0), BAD);
        due("HALT at 2: lost(1)", x.lost(1), 2);
        due("HALT at 2: cycles()", x.cycles(), 6);
        for (int kind = 0; kind < 6; kind++) {
            due("HALT at 2: busy(" + kind + ", 7)", x.busy(kind, 7), 0);
        }
    }

    private static void endsWhereNothingIs() {
        ScoreDesk x = new ScoreDesk();
        due("an empty program", x.run(), OK);
        due("an empty program: done()", x.done(), 0);
        x = fullWithJump(ADD, 0, 0);
        due("after number 23", x.run(), OK);
        due("after number 23: done()", x.done(), 24);
        // Nothing is left of a longer program that was there before.
        x = fullWithJump(ADD, 0, 0);
        x.clear();
        due("a cleared program", x.run(), OK);
        due("a cleared program: done()", x.done(), 0);
        x.add(GO, 0, 0, 1);
        due("after 1 of a new program", x.run(), OK);
        due("after 1 of a new program: done()", x.done(), 1);
    }

    /** Does pads + 3 * rounds instructions, and goes on at number pads + 4. */
    private static ScoreDesk counted(int pads, int rounds) {
        ScoreDesk x = new ScoreDesk();
        for (int n = 0; n < pads; n++) {
            x.add(SET, 5, n, 0);
        }
        x.add(SET, 0, rounds, 0);
        x.add(SUB, 0, 0, 1);
        x.add(ZERO, 0, 0, pads + 4);
        x.add(GO, 0, 0, pads + 1);
        x.set(1, 1);
        return x;
    }

    private static void dueEnd(ScoreDesk x, String what, int answer, int done) {
        due(what + ": run()", x.run(), answer);
        due(what + ": done()", x.done(), done);
        due(what + ": value(7)", x.value(7), 0);
    }

    private static void endsAtSixty() {
        dueEnd(counted(2, 19), "59, then none", OK, 59);
        dueEnd(counted(0, 20), "60, then none", OK, 60);
        dueEnd(counted(1, 20), "61", LONG, 60);
        ScoreDesk x = counted(3, 19);
        x.add(HALT, 0, 0, 0);
        dueEnd(x, "60, then a HALT", OK, 60);
        x = counted(3, 19);
        x.add(SET, 7, 1, 0);
        dueEnd(x, "60, then a SET", LONG, 60);
        x = counted(2, 19);
        x.add(GO, 0, 0, 23);
        dueEnd(x, "60 with a GO to nothing", OK, 60);
        x = counted(2, 19);
        x.add(GO, 0, 0, 8);
        x.add(SET, 7, 1, 0);
        x.add(HALT, 0, 0, 0);
        dueEnd(x, "60 with a GO to a HALT", OK, 60);
        x = counted(2, 19);
        x.add(GO, 0, 0, 7);
        x.add(SET, 7, 1, 0);
        dueEnd(x, "60 with a GO to a SET", LONG, 60);
        x = counted(2, 19);
        x.add(SET, 6, 8, 0);
        x.run();
        due("the 60th is done", x.value(6), 8);
    }

    private static void packsOfTwo() {
        ScoreDesk x = new ScoreDesk();
        for (int n = 0; n < 24; n++) {
            x.add(SET, n & 1, n, 0);
        }
        x.fetch(1, 6);
        x.run();
        // The first SET of a pack waits for 6 of fetching, the second one for the 2 of the unit.
        dueLost(x, "0 72 0 24 0 0 0");
        for (int w = 0; w < 12; w++) {
            due("ISSUE of " + 2 * w, x.time(2 * w, 1), w == 0 ? 7 : 7 + 10 * w);
            due("ISSUE of " + (2 * w + 1), x.time(2 * w + 1, 1), 10 + 10 * w);
        }
        x = with(GO, 0, 0, 3, HALT, 0, 0, 0, GO, 0, 0, 4, GO, 0, 0, 2);
        x.fetch(1, 6);
        x.run();
        due("3 and then 2: lost(1)", x.lost(1), 12);
        x = with(SET, 1, 1, 0, GO, 0, 0, 2, GO, 0, 0, 1);
        x.fetch(1, 6);
        due("1 and 2 in turn", x.run(), LONG);
        due("1 and 2 in turn: lost(1)", x.lost(1), 6 * 59);
    }

    private static void stackHoldsItsSize() {
        for (int size = 1; size <= 4; size++) {
            for (int packs = 1; packs <= 6; packs++) {
                ScoreDesk x = new ScoreDesk();
                for (int n = 0; n < 2 * packs - 1; n++) {
                    x.add(ADD, n & 1, 7, 7);
                }
                x.add(GO, 0, 0, 0);
                x.fetch(size, 6);
                x.run();
                due(packs + " packs with a SIZE of " + size + ": lost(1)", x.lost(1), 6 * (packs <= size ? packs : 30));
            }
        }
    }

    private static void stackBeginsEmpty() {
        for (int size = 1; size <= 4; size++) {
            ScoreDesk x = with(SET, 1, 1, 0);
            x.fetch(size, 6);
            for (int n = 0; n < 3; n++) {
                x.run();
                due("run " + n + " with a SIZE of " + size + ": lost(1)", x.lost(1), 6);
                due("run " + n + " with a SIZE of " + size + ": ISSUE", x.time(0, 1), 7);
            }
        }
        stackOfAnotherSize();
    }

    private static void stackOfAnotherSize() {
        // Whatever was its SIZE, and however many were fetched, the next run has all its places.
        for (int before = 1; before <= 4; before++) {
            for (int size = 1; size <= 4; size++) {
                for (int packs = 1; packs <= 5; packs++) {
                    ScoreDesk x = new ScoreDesk();
                    for (int n = 0; n < 2 * packs; n++) {
                        x.add(ADD, n & 1, 7, 7);
                    }
                    x.fetch(before, 6);
                    x.run();
                    x.clear();
                    addPath(x, 0, 1, 0, 2, 3, 4, 2, 5, 6, 7, 8, 5);
                    x.fetch(size, 6);
                    x.run();
                    due(packs + " packs with " + before + ", then " + size + ": lost(1)", x.lost(1), 6 * (13 - size));
                }
            }
        }
    }

    private static void firstFetchedGoes() {
        // Being used again does not keep a pack: the first one goes, and the others stay.
        due("SIZE 1", fetched(1, 0, 1, 0, 1), 4);
        due("SIZE 2, the others stay", fetched(2, 0, 1, 0, 2, 1, 2, 3, 4, 3, 5, 4, 5), 6);
        due("SIZE 2, the first goes", fetched(2, 0, 1, 2, 0, 2, 1), 5);
        due("SIZE 3, the others stay", fetched(3, 0, 1, 2, 0, 3, 1, 2, 4, 3, 5, 4, 6, 5, 6), 7);
        due("SIZE 3, the first goes", fetched(3, 0, 1, 2, 3, 0, 2, 1, 3), 6);
        due("SIZE 4, the others stay", fetched(4, 0, 1, 2, 3, 0, 4, 1, 5, 2, 6, 3, 7, 4, 8, 5), 9);
        due("SIZE 4, the first goes", fetched(4, 0, 1, 2, 3, 4, 0, 2, 1, 3, 4), 7);
    }

    // ---- Terms: what can be set

    private static void settings() {
        test("The story that refused calls are compared by", BoundaryTests::storyTellsEachChange);
        test("its SIZE, 1..4, at first 2", BoundaryTests::firstSize);
        test("The FETCH TIME is 0..6, at first 2", BoundaryTests::fetchTimes);
        test("UNITS: 1..3 of each kind", BoundaryTests::unitsOfEachKind);
        test("each kind with a LATENCY 1..8", BoundaryTests::latencyOfEachKind);
        test("at first 1 unit of kinds 0, 3, 5, 2 of the others", BoundaryTests::firstUnits);
        test("latencies 1, 2, 4, 8, 3, 1", BoundaryTests::firstLatencies);
        test("The BANK TIME is 1..8, at first 4", BoundaryTests::bankTimes);
    }

    private static void firstSize() {
        ScoreDesk x = new ScoreDesk();
        addPath(x, 0, 1, 0, 2, 3, 4, 2);
        x.run();
        due("lost(1) at first", x.lost(1), 2 * 6);
        int[] packs = {7, 6, 5, 5};
        for (int size = 1; size <= 4; size++) {
            due("fetch(" + size + ", 2)", x.fetch(size, 2), true);
            x.run();
            due("lost(1) with " + size, x.lost(1), 2 * packs[size - 1]);
        }
    }

    private static void fetchTimes() {
        ScoreDesk x = with(SET, 1, 1, 0);
        x.run();
        due("ISSUE at first", x.time(0, 1), 3);
        for (int time = 0; time <= 6; time++) {
            due("fetch(1, " + time + ")", x.fetch(1, time), true);
            x.run();
            due("ISSUE with " + time, x.time(0, 1), 1 + time);
            due("lost(1) with " + time, x.lost(1), time);
        }
    }

    private static int opOf(int kind) {
        return new int[] {SET, ADD, MUL, DIV, LOAD, GO}[kind];
    }

    /** Four instructions of a kind, none of which waits for another but for its unit. */
    private static ScoreDesk fourOf(int kind) {
        ScoreDesk x = unfetched();
        for (int i = 0; i < 4; i++) {
            x.add(opOf(kind), i, 7, kind == 4 ? i : kind == 5 ? i + 1 : 7);
        }
        return x;
    }

    private static void unitsOfEachKind() {
        for (int kind = 0; kind < 5; kind++) {
            for (int many = 1; many <= 3; many++) {
                ScoreDesk x = fourOf(kind);
                due("units(" + kind + ", " + many + ", 8)", x.units(kind, many, 8), true);
                x.run();
                for (int k = 0; k <= many; k++) {
                    int issue = k < many ? k + 1 : kind == 4 ? 12 : 11;
                    due("kind " + kind + ", " + many + " units: ISSUE of " + k, x.time(k, 1), issue);
                    due("kind " + kind + ", " + many + " units: unit of " + k, x.time(k, 5), k % many);
                    due("kind " + kind + ", " + many + " units: busy at " + (k + 1), x.busy(kind, k + 1), k < many ? k + 1 : many);
                }
            }
        }
        // A jump is written before the next one is issued, so the first unit is always free.
        for (int many = 1; many <= 3; many++) {
            ScoreDesk x = fourOf(5);
            due("units(5, " + many + ", 8)", x.units(5, many, 8), true);
            x.run();
            for (int k = 0; k < 4; k++) {
                due("kind 5, " + many + " units: ISSUE of " + k, x.time(k, 1), 1 + 10 * k);
                due("kind 5, " + many + " units: unit of " + k, x.time(k, 5), 0);
            }
        }
    }

    private static void latencyOfEachKind() {
        for (int kind = 0; kind < 6; kind++) {
            for (int latency = 1; latency <= 8; latency++) {
                ScoreDesk x = fourOf(kind);
                due("units(" + kind + ", 1, " + latency + ")", x.units(kind, 1, latency), true);
                x.run();
                due("kind " + kind + ", latency " + latency + ": DONE", x.time(0, 3), (kind == 4 ? 3 : 2) + latency);
            }
        }
    }

    private static void firstUnits() {
        int[] many = {1, 2, 2, 1, 2, 1};
        for (int kind = 0; kind < 6; kind++) {
            ScoreDesk x = fourOf(kind);
            x.run();
            int write = x.time(0, 4);
            due("kind " + kind + ": ISSUE after the first ones", x.time(many[kind], 1), write + 1);
            due("kind " + kind + ": ISSUE of the last of the first ones", x.time(many[kind] - 1, 1), many[kind]);
            due("kind " + kind + ": its unit", x.time(many[kind] - 1, 5), many[kind] - 1);
        }
    }

    private static void firstLatencies() {
        int[] latency = {1, 2, 4, 8, 3, 1};
        for (int kind = 0; kind < 6; kind++) {
            ScoreDesk x = fourOf(kind);
            x.run();
            due("kind " + kind + ": DONE", x.time(0, 3), (kind == 4 ? 3 : 2) + latency[kind]);
        }
    }

    private static void bankTimes() {
        ScoreDesk x = unfetched(LOAD, 1, 7, 0, STORE, 2, 7, 4);
        x.run();
        due("DONE at first", x.time(1, 3), 3 + 4 + 3);
        for (int time = 1; time <= 8; time++) {
            due("bank(" + time + ")", x.bank(time), true);
            x.run();
            due("DONE with " + time, x.time(1, 3), 3 + time + 3);
            due("lost(5) with " + time, x.lost(5), time - 1);
        }
    }

    // ---- Terms: when an instruction is done

    private static void cyclesOfInstructions() {
        test("CYCLES of a run are 1, 2, ..", BoundaryTests::cyclesFromOne);
        test("a unit of its kind from its ISSUE to its WRITE (both included)", BoundaryTests::unitFromIssueToWrite);
        test("the least one that is free at its ISSUE", BoundaryTests::leastFreeUnit);
        test("An instruction is NEXT in cycle 1 (the first one), in the cycle after the ISSUE of the one before",
                BoundaryTests::nextAfterIssue);
        test("or after its WRITE if that is a ZERO or GO", BoundaryTests::nextAfterJump);
        test("and the FETCH TIME more if it is fetched", BoundaryTests::issueAfterFetch);
        test("after the WRITEs of all before with the same destination", BoundaryTests::issueAfterWrite);
        test("READ is the least cycle after ISSUE, and after the WRITE of the latest one before", BoundaryTests::readAtEdges);
        test("ACCESS (of LOAD, STORE) is the least cycle after READ; after the ACCESS of the LOAD or STORE before",
                BoundaryTests::accessInOrder);
        test("not less than the BANK TIME after the latest ACCESS before to a word of this bank", BoundaryTests::accessOfBanks);
        test("WRITE is the least cycle not before DONE, and after the READs of all before", BoundaryTests::writeAtEdges);
    }

    private static void cyclesFromOne() {
        ScoreDesk x = unfetched(SET, 1, 1, 0);
        for (int n = 0; n < 2; n++) {
            x.run();
            dueTimes(x, 0, "0 1 2 3 3 0");
            due("cycles()", x.cycles(), 3);
            due("busy(0, 0)", x.busy(0, 0), 0);
            due("busy(0, 1)", x.busy(0, 1), 1);
        }
        for (int r = 0; r < 8; r++) {
            nothingLeftOfTheRunBefore(r);
        }
    }

    /** Register r, its bank and its unit were used late in the run before. */
    private static void nothingLeftOfTheRunBefore(int r) {
        int other = r == 1 ? 2 : 1;
        ScoreDesk x = unfetched(DIV, other, 5, 5, GO, 0, 0, 2, STORE, r, other, r, DIV, r, 5, 5, LOAD, 6, r, r);
        x.set(5, 1);
        x.bank(8);
        x.run();
        due("lost(0) of the run before", x.lost(0), 2);
        x.clear();
        x.add(LOAD, r, 3, r);
        x.run();
        dueTimes(x, 0, "0 1 2 6 6 0");
        dueLost(x, "0 0 0 0 0 0 0");
        x.clear();
        x.add(DIV, 4, r, r);
        x.run();
        dueTimes(x, 0, "0 1 2 10 10 0");
    }

    private static void unitFromIssueToWrite() {
        // The second MUL has its DONE in 8, and its WRITE only after the READ in 11 of the ADD.
        ScoreDesk x = unfetched(DIV, 1, 7, 7, ADD, 2, 3, 1, MUL, 3, 7, 7, MUL, 4, 7, 7, MUL, 5, 7, 7);
        x.units(2, 1, 4);
        x.run();
        dueTimes(x, 2, "2 3 4 8 12 0");
        dueTimes(x, 3, "3 13 14 18 18 0");
        dueTimes(x, 4, "4 19 20 24 24 0");
        for (int cycle = 0; cycle <= 25; cycle++) {
            due("busy(2, " + cycle + ")", x.busy(2, cycle), cycle >= 3 && cycle <= 24 ? 1 : 0);
        }
        due("busy(3, 10)", x.busy(3, 10), 1);
        due("busy(3, 11)", x.busy(3, 11), 0);
    }

    private static void leastFreeUnit() {
        ScoreDesk x = unfetched(DIV, 1, 7, 7, ADD, 2, 1, 1, ADD, 3, 7, 7, ADD, 4, 7, 7, ADD, 5, 7, 7, ADD, 6, 7, 7);
        x.units(1, 3, 2);
        x.run();
        dueTimes(x, 1, "1 2 11 13 13 0");
        dueTimes(x, 2, "2 3 4 6 6 1");
        dueTimes(x, 3, "3 4 5 7 7 2");
        dueTimes(x, 4, "4 7 8 10 10 1");
        dueTimes(x, 5, "5 8 9 11 11 2");
        // Unit 0 is written in 4: it is not free for an ISSUE in 4, but for one in 5.
        x = unfetched(ADD, 1, 7, 7, SET, 2, 1, 0, MUL, 3, 7, 7, ADD, 4, 7, 7);
        x.run();
        dueTimes(x, 3, "3 4 5 7 7 1");
        x = unfetched(ADD, 1, 7, 7, SET, 2, 1, 0, MUL, 3, 7, 7, DIV, 4, 7, 7, ADD, 5, 7, 7);
        x.run();
        dueTimes(x, 4, "4 5 6 8 8 0");
        // All are free again when the GO is written.
        x = unfetched(ADD, 1, 7, 7, ADD, 2, 7, 7, GO, 0, 0, 3, ADD, 3, 7, 7);
        x.units(5, 1, 8);
        x.run();
        dueTimes(x, 3, "3 13 14 16 16 0");
        // Unit 0 is still taken then, 1 and 2 are free.
        x = unfetched(DIV, 1, 7, 7, ADD, 2, 1, 1, ADD, 3, 7, 7, ADD, 4, 7, 7, GO, 0, 0, 5, ADD, 5, 7, 7);
        x.units(1, 3, 2);
        x.units(5, 1, 2);
        x.run();
        dueTimes(x, 5, "5 9 10 12 12 1");
        // Units that are taken away are not given.
        x.units(1, 1, 2);
        x.run();
        for (int k = 1; k < 6; k++) {
            due("the unit of " + k + " of one", x.time(k, 5), 0);
        }
    }

    private static void nextAfterIssue() {
        ScoreDesk x = unfetched(DIV, 1, 7, 7, MUL, 2, 7, 7, ADD, 3, 7, 7, SET, 4, 1, 0, LOAD, 5, 7, 0, GO, 0, 0, 6, STORE, 7, 7, 1);
        x.run();
        for (int k = 0; k < 6; k++) {
            due("ISSUE of " + k, x.time(k, 1), k + 1);
        }
        due("lost(0)", x.lost(0), 2);
        due("ISSUE after the GO", x.time(6, 1), 9);
    }

    private static void nextAfterJump() {
        for (int latency = 1; latency <= 8; latency++) {
            for (int n = 0; n < 3; n++) {
                // A GO, a ZERO that goes on at b, and a ZERO that does not.
                ScoreDesk x = unfetched(n == 0 ? GO : ZERO, 0, 1, 1, SET, 2, 2, 0);
                x.set(1, n == 2 ? 5 : 0);
                x.units(5, 1, latency);
                x.run();
                due("jump " + n + " of " + latency + ": WRITE", x.time(0, 4), 2 + latency);
                due("jump " + n + " of " + latency + ": ISSUE of the next", x.time(1, 1), 3 + latency);
                due("jump " + n + " of " + latency + ": lost(0)", x.lost(0), 1 + latency);
            }
        }
    }

    private static void issueAfterFetch() {
        for (int time = 0; time <= 6; time++) {
            ScoreDesk x = with(SET, 1, 1, 0, ADD, 2, 7, 7, MUL, 3, 7, 7);
            x.fetch(1, time);
            x.run();
            due("time " + time + ": ISSUE of 0", x.time(0, 1), 1 + time);
            due("time " + time + ": ISSUE of 1, in the same pack", x.time(1, 1), 2 + time);
            due("time " + time + ": ISSUE of 2", x.time(2, 1), 3 + 2 * time);
        }
        // The fetch begins when it is NEXT, in 9, and not when the unit is free, from 18 on.
        ScoreDesk x = with(SET, 1, 1, 0, DIV, 2, 7, 7, DIV, 3, 7, 7);
        x.fetch(1, 6);
        x.run();
        dueTimes(x, 1, "1 8 9 17 17 0");
        dueTimes(x, 2, "2 18 19 27 27 0");
        dueLost(x, "0 12 0 3 0 0 0");
    }

    private static void issueAfterWrite() {
        for (int latency = 1; latency <= 8; latency++) {
            ScoreDesk x = unfetched(DIV, 1, 7, 7, SET, 1, 5, 0);
            x.units(3, 1, latency);
            x.run();
            due("latency " + latency + ": ISSUE", x.time(1, 1), 3 + latency);
            due("latency " + latency + ": lost(2)", x.lost(2), 1 + latency);
        }
        // Three in a row, each after the one before; a STORE has no destination, and a ZERO none.
        ScoreDesk x = unfetched(SET, 1, 1, 0, ADD, 1, 7, 7, MUL, 1, 7, 7, STORE, 1, 7, 0, SET, 2, 1, 0);
        x.run();
        due("ISSUE of the ADD", x.time(1, 1), 4);
        due("ISSUE of the MUL", x.time(2, 1), 8);
        due("ISSUE of the STORE", x.time(3, 1), 9);
        x = unfetched(STORE, 1, 7, 0, SET, 1, 1, 0, ZERO, 2, 7, 3, SET, 2, 2, 0);
        x.run();
        due("ISSUE after a STORE", x.time(1, 1), 2);
        due("ISSUE after a ZERO", x.time(3, 1), 6);
    }

    private static void readAtEdges() {
        // The SET is written in 3: READ is in 4 if ISSUE is before 4, and in the cycle after ISSUE from then on.
        ScoreDesk x = unfetched(SET, 1, 5, 0, ADD, 2, 1, 1, ADD, 3, 1, 7, MUL, 4, 7, 1);
        x.run();
        dueTimes(x, 1, "1 2 4 6 6 0");
        dueTimes(x, 2, "2 3 4 6 6 1");
        dueTimes(x, 3, "3 4 5 9 9 0");
        // The later of both sources counts, whichever it is.
        x = unfetched(DIV, 1, 7, 7, SET, 2, 5, 0, ADD, 3, 1, 2, ADD, 4, 2, 1);
        x.run();
        due("READ of 1 and 2", x.time(2, 2), 11);
        due("READ of 2 and 1", x.time(3, 2), 11);
        // The latest one before counts, and neither the instruction itself nor one after it.
        x = unfetched(SET, 1, 5, 0, MUL, 1, 1, 1, ADD, 2, 1, 7, DIV, 7, 7, 7);
        x.run();
        dueTimes(x, 1, "1 4 5 9 9 0");
        dueTimes(x, 2, "2 5 10 12 12 0");
        dueTimes(x, 3, "3 6 7 15 15 0");
    }

    private static void accessInOrder() {
        ScoreDesk x = unfetched(LOAD, 1, 7, 0, STORE, 2, 7, 1, LOAD, 3, 7, 2);
        x.units(4, 3, 3);
        x.run();
        for (int k = 0; k < 3; k++) {
            due("READ of " + k, x.time(k, 2), k + 2);
            due("DONE of " + k, x.time(k, 3), k + 3 + 3);
        }
        due("lost(5)", x.lost(5), 0);
        // All later ones come after one that waits for its address, or for what it stores.
        for (int d = 1; d <= 2; d++) {
            x = unfetched(DIV, 1, 7, 7, STORE, d, d == 1 ? 7 : 1, 0, LOAD, 3, 7, 1, STORE, 7, 7, 2);
            x.units(4, 3, 3);
            x.run();
            dueTimes(x, 1, "1 2 11 15 15 0");
            dueTimes(x, 2, "2 3 4 16 16 1");
            dueTimes(x, 3, "3 4 5 17 17 2");
            due("lost(5)", x.lost(5), 8 + 8);
        }
    }

    private static void accessOfBanks() {
        // Banks 0, 1, 0, 1: ACCESS in 3, 4, 11 and 12; the last one has both waits end in 12.
        ScoreDesk x = unfetched(LOAD, 1, 7, 0, STORE, 2, 7, 1, LOAD, 3, 7, 4, STORE, 4, 7, 5);
        x.units(4, 3, 1);
        x.bank(8);
        x.run();
        dueTimes(x, 0, "0 1 2 4 4 0");
        dueTimes(x, 1, "1 2 3 5 5 1");
        dueTimes(x, 2, "2 3 4 12 12 2");
        dueTimes(x, 3, "3 5 6 13 13 0");
        due("lost(5)", x.lost(5), 6 + 5);
        // Three to one bank: the latest ACCESS counts.
        x = unfetched(LOAD, 1, 7, 0, LOAD, 2, 7, 0, LOAD, 3, 7, 0);
        x.units(4, 3, 1);
        x.bank(5);
        x.run();
        due("DONE of the second", x.time(1, 3), 9);
        due("DONE of the third", x.time(2, 3), 14);
        // Coming when the BANK TIME is just over, and a cycle later, nothing is lost.
        for (int time = 1; time <= 8; time++) {
            x = unfetched(LOAD, 1, 7, 0, GO, 0, 0, 2, LOAD, 2, 7, 8);
            x.bank(time);
            x.run();
            due("BANK TIME " + time + ": DONE", x.time(2, 3), 3 + (time < 4 ? 7 : 3 + time));
            due("BANK TIME " + time + ": lost(5)", x.lost(5), time < 5 ? 0 : time - 4);
        }
    }

    private static void writeAtEdges() {
        // The SET has its DONE in 5; the ADD before, which needs what it overwrites, its READ in 3 + latency.
        for (int latency = 1; latency <= 8; latency++) {
            ScoreDesk x = unfetched(DIV, 1, 7, 7, ADD, 2, 3, 1, SET, 3, 9, 0);
            x.units(3, 1, latency);
            x.run();
            int write = latency == 1 ? 5 : 4 + latency;
            due("latency " + latency + ": READ of the ADD", x.time(1, 2), 3 + latency);
            dueTimes(x, 2, "2 3 4 5 " + write + " 0");
            due("latency " + latency + ": lost(6)", x.lost(6), write - 5);
        }
        // The latest READ of several counts, whichever of them it is; one's own READ does not.
        ScoreDesk x = unfetched(DIV, 1, 7, 7, STORE, 3, 1, 0, ADD, 2, 3, 3, SET, 3, 9, 0);
        x.run();
        dueTimes(x, 3, "3 4 5 6 12 0");
        x = unfetched(ADD, 1, 1, 1);
        x.units(1, 1, 1);
        x.run();
        dueTimes(x, 0, "0 1 2 3 3 0");
    }

    // ---- Terms: LOST

    private static void lostCycles() {
        test("0 to 3 cycles between two ISSUEs, or before the first", BoundaryTests::lostBeforeTheFirst);
        test("0 if the one that comes is not NEXT yet; 1 if it is being fetched", BoundaryTests::lostInTurn);
        test("else 2 if the WRITE of one before with the same destination was not before this cycle; else 3",
                BoundaryTests::lostToDestinationOrUnit);
        test("4: cycles after ISSUE and before READ", BoundaryTests::lostBeforeRead);
        test("5: after READ and before ACCESS", BoundaryTests::lostBeforeAccess);
        test("6: not before DONE, and before WRITE", BoundaryTests::lostBeforeWrite);
    }

    private static void lostBeforeTheFirst() {
        ScoreDesk x = with(DIV, 1, 7, 7);
        x.fetch(1, 6);
        x.run();
        dueLost(x, "0 6 0 0 0 0 0");
        x.fetch(1, 0);
        x.run();
        dueLost(x, "0 0 0 0 0 0 0");
        // After the last ISSUE nothing is lost, though a GO and what follows are not written yet.
        x = unfetched(DIV, 1, 7, 7, GO, 0, 0, 23);
        x.run();
        dueLost(x, "0 0 0 0 0 0 0");
    }

    private static void lostInTurn() {
        // GO: ISSUE 7, WRITE 10; NEXT is 11, fetched up to 16; ISSUE 17.
        ScoreDesk x = with(GO, 0, 0, 2, HALT, 0, 0, 0, SET, 1, 1, 0);
        x.fetch(1, 6);
        x.units(5, 1, 2);
        x.run();
        dueTimes(x, 0, "0 7 8 10 10 0");
        dueTimes(x, 1, "2 17 18 19 19 0");
        dueLost(x, "3 12 0 0 0 0 0");
        // While it is not NEXT, and while it is fetched, its destination and its unit do not count:
        // DIV is written in 13, NEXT is 7, fetched in 7, 8, 9.
        x = with(DIV, 1, 7, 7, GO, 0, 0, 2, DIV, 1, 7, 7);
        x.fetch(4, 3);
        x.run();
        dueTimes(x, 0, "0 4 5 13 13 0");
        dueTimes(x, 1, "1 5 6 7 7 0");
        dueTimes(x, 2, "2 14 15 23 23 0");
        dueLost(x, "2 6 3 0 0 0 0");
    }

    private static void lostToDestinationOrUnit() {
        // The destination is written in 5: cycles 3 to 5 wait for it, if both wait; the unit is free from 11 on.
        ScoreDesk x = unfetched(DIV, 2, 7, 7, SET, 1, 9, 0, DIV, 1, 7, 7);
        x.units(0, 1, 2);
        x.run();
        due("WRITE of the SET", x.time(1, 4), 5);
        due("ISSUE of the second DIV", x.time(2, 1), 11);
        dueLost(x, "0 0 3 5 0 0 0");
        // Unit and destination are written in the same cycle, which counts to 2.
        x = unfetched(DIV, 1, 7, 7, DIV, 1, 7, 7);
        x.run();
        dueLost(x, "0 0 9 0 0 0 0");
        // The unit alone.
        x = unfetched(DIV, 1, 7, 7, DIV, 2, 7, 7);
        x.run();
        dueLost(x, "0 0 0 9 0 0 0");
        // The unit is taken in 3 too, but the destination, written in 11, goes before it.
        x = unfetched(SET, 2, 1, 0, DIV, 1, 7, 7, SET, 1, 1, 0);
        x.run();
        due("ISSUE of the last SET", x.time(2, 1), 12);
        dueLost(x, "0 0 9 0 0 0 0");
    }

    private static void lostBeforeRead() {
        for (int latency = 1; latency <= 8; latency++) {
            ScoreDesk x = unfetched(DIV, 1, 7, 7, ADD, 2, 1, 1, ADD, 3, 7, 7);
            x.units(3, 1, latency);
            x.run();
            dueLost(x, "0 0 0 0 " + latency + " 0 0");
        }
        ScoreDesk x = unfetched(SET, 1, 5, 0, GO, 0, 0, 2, ADD, 2, 1, 1);
        x.run();
        due("lost(4) when all was written before", x.lost(4), 0);
    }

    private static void lostBeforeAccess() {
        ScoreDesk x = unfetched(LOAD, 1, 7, 0, ADD, 2, 7, 7);
        x.run();
        due("lost(5) of one alone, and of none", x.lost(5), 0);
        for (int time = 1; time <= 8; time++) {
            x = unfetched(LOAD, 1, 7, 0, LOAD, 2, 7, 0, LOAD, 3, 7, 0);
            x.units(4, 3, 3);
            x.bank(time);
            x.run();
            due("lost(5) with " + time, x.lost(5), 3 * (time - 1));
        }
    }

    private static void lostBeforeWrite() {
        // The ADD has its READ in 11.
        ScoreDesk x = unfetched(DIV, 1, 7, 7, ADD, 2, 3, 1, SET, 3, 9, 0);
        x.run();
        dueTimes(x, 2, "2 3 4 5 12 0");
        dueLost(x, "0 0 0 0 8 0 7");
        // Two that wait at once lose twice.
        x = unfetched(DIV, 1, 7, 7, ADD, 2, 3, 1, ADD, 5, 4, 1, SET, 3, 9, 0, MUL, 4, 7, 7);
        x.run();
        dueTimes(x, 3, "3 4 5 6 12 0");
        dueTimes(x, 4, "4 5 6 10 12 0");
        dueLost(x, "0 0 0 0 15 0 8");
    }

    // ---- Promises 1 to 3

    private static void promisesOneToThree() {
        test("OK = 0, LONG = 1, BAD = -1, FULL = -2", BoundaryTests::constants);
        test("1: No program; as said; nothing was run.", BoundaryTests::newObject);
        test("2: A further instruction: how many there are.", BoundaryTests::addCounts);
        test("2: BAD if op is outside", BoundaryTests::addOpOutside);
        test("2: BAD if a register that it names is outside", BoundaryTests::addRegisterOutside);
        test("2: BAD if b of ZERO or GO is outside", BoundaryTests::addTargetOutside);
        test("2: FULL", BoundaryTests::addFull);
        test("3: The program has no instructions then: how many it had.", BoundaryTests::clearAtEdges);
    }

    private static void constants() {
        due("OK", ScoreDesk.OK, OK);
        due("LONG", ScoreDesk.LONG, LONG);
        due("BAD", ScoreDesk.BAD, BAD);
        due("FULL", ScoreDesk.FULL, FULL);
    }

    private static void newObject() {
        due("clear()", new ScoreDesk().clear(), 0);
        ScoreDesk x = new ScoreDesk();
        due("done()", x.done(), 0);
        due("cycles()", x.cycles(), 0);
        for (int what = 0; what < 6; what++) {
            due("time(0, " + what + ")", x.time(0, what), BAD);
        }
        dueLost(x, "0 0 0 0 0 0 0");
        due("run()", x.run(), OK);
        due("done()", x.done(), 0);
        // One object has nothing of another.
        x.set(1, 5);
        x.poke(1, 5);
        x.add(HALT, 0, 0, 0);
        x.units(3, 3, 1);
        ScoreDesk y = new ScoreDesk();
        due("value(1) of another", y.value(1), 0);
        due("peek(1) of another", y.peek(1), 0);
        due("clear() of another", y.clear(), 0);
        y.add(DIV, 1, 7, 7);
        y.run();
        due("cycles() of another", y.cycles(), 12);
    }

    private static void addCounts() {
        int[][] every = {{SET, 7, MIN, MAX}, {SET, 0, 8, -1}, {ADD, 0, 7, 0}, {SUB, 7, 0, 7}, {LESS, 0, 0, 7}, {MUL, 7, 7, 7},
            {DIV, 0, 0, 0}, {LOAD, 7, 7, MIN}, {LOAD, 0, 0, MAX}, {STORE, 7, 7, MAX}, {STORE, 0, 0, 8}, {ZERO, 8, 7, 23},
            {ZERO, MIN, 0, 0}, {GO, -1, 8, 23}, {GO, MAX, MIN, 0}, {HALT, 0, 0, 0}, {HALT, -1, 8, 24}, {HALT, MIN, MAX, MIN}};
        ScoreDesk x = new ScoreDesk();
        for (int n = 0; n < every.length; n++) {
            int[] e = every[n];
            due("add of op " + e[0], x.add(e[0], e[1], e[2], e[3]), n + 1);
        }
        due("clear()", x.clear(), every.length);
    }

    private static void addOpOutside() {
        changesNothing("add of an op outside", x -> {
            for (int op : outside(0, 10)) {
                due("add(" + op + ", 0, 0, 0)", x.add(op, 0, 0, 0), BAD);
            }
        });
    }

    private static void addRegisterOutside() {
        for (int op = SET; op <= ZERO; op++) {
            int o = op;
            changesNothing("add of op " + o + " with a register outside", x -> {
                for (int r : outside(0, 7)) {
                    if (o <= STORE) {
                        due("op " + o + " d " + r, x.add(o, r, 0, 0), BAD);
                    }
                    if (o >= ADD) {
                        due("op " + o + " a " + r, x.add(o, 0, r, 0), BAD);
                    }
                    if (o >= ADD && o <= DIV) {
                        due("op " + o + " b " + r, x.add(o, 0, 0, r), BAD);
                    }
                }
            });
        }
    }

    private static void addTargetOutside() {
        for (int op : new int[] {ZERO, GO}) {
            changesNothing("add of op " + op + " with b outside", x -> {
                for (int b : outside(0, 23)) {
                    due("op " + op + " b " + b, x.add(op, 0, 0, b), BAD);
                }
            });
        }
    }

    private static void addFull() {
        ScoreDesk x = fullWithJump(SET, 23, 0);
        for (int op = SET; op <= HALT; op++) {
            due("add of op " + op + " to 24", x.add(op, 0, 0, 0), FULL);
        }
        x.run();
        due("done()", x.done(), 24);
        due("clear()", x.clear(), 24);
        due("add after clear", x.add(HALT, 0, 0, 0), 1);
        due("clear()", x.clear(), 1);
    }

    private static void clearAtEdges() {
        ScoreDesk x = new ScoreDesk();
        due("clear() of none", x.clear(), 0);
        for (int n = 1; n <= 24; n++) {
            for (int i = 0; i < n; i++) {
                x.add(HALT, 0, 0, 0);
            }
            due("clear() of " + n, x.clear(), n);
        }
        due("clear() again", x.clear(), 0);
        x = with(MUL, 1, 2, 2, STORE, 1, 7, 3);
        x.set(2, 5);
        x.units(2, 1, 8);
        x.fetch(1, 6);
        x.bank(8);
        x.run();
        x.clear();
        // All but the program stays.
        due("value(1)", x.value(1), 25);
        due("peek(3)", x.peek(3), 25);
        due("done()", x.done(), 2);
        due("cycles()", x.cycles(), x.time(1, 4));
        dueTimes(x, 0, "0 7 8 16 16 0");
        due("busy(2, 16)", x.busy(2, 16), 1);
        due("lost(1)", x.lost(1), 6);
        due("run()", x.run(), OK);
        due("done() of nothing", x.done(), 0);
        x.add(MUL, 1, 2, 2);
        x.run();
        dueTimes(x, 0, "0 7 8 16 16 0");
    }

    // ---- Promises 4 to 9

    private static void promisesFourToNine() {
        test("4: False, and nothing changes, if one is outside.", BoundaryTests::unitsRefused);
        test("5: False likewise.", BoundaryTests::fetchRefused);
        test("6: False likewise.", BoundaryTests::bankRefused);
        test("7: False if there is none.", BoundaryTests::pokeRefused);
        test("8: False if there is none.", BoundaryTests::setRefused);
        test("9: Registers 0 to 7 and words w to w + 7 exchange their ints.", BoundaryTests::exchangesAll);
        test("9: False if w is outside 0..24.", BoundaryTests::exchangeRefused);
    }

    private static void unitsRefused() {
        changesNothing("units of a kind outside", x -> {
            for (int kind : outside(0, 5)) {
                due("units(" + kind + ", 1, 1)", x.units(kind, 1, 1), false);
            }
        });
        for (int kind = 0; kind < 6; kind++) {
            int k = kind;
            changesNothing("units of " + k + " refused", x -> {
                for (int many : outside(1, 3)) {
                    due("units(" + k + ", " + many + ", 1)", x.units(k, many, 1), false);
                }
                for (int latency : outside(1, 8)) {
                    due("units(" + k + ", 1, " + latency + ")", x.units(k, 1, latency), false);
                }
                due("units(" + k + ", 0, 0)", x.units(k, 0, 0), false);
            });
        }
    }

    private static void fetchRefused() {
        changesNothing("fetch refused", x -> {
            for (int size : outside(1, 4)) {
                due("fetch(" + size + ", 0)", x.fetch(size, 0), false);
            }
            for (int time : outside(0, 6)) {
                due("fetch(1, " + time + ")", x.fetch(1, time), false);
            }
            due("fetch(0, -1)", x.fetch(0, -1), false);
        });
    }

    private static void bankRefused() {
        changesNothing("bank refused", x -> {
            for (int time : outside(1, 8)) {
                due("bank(" + time + ")", x.bank(time), false);
            }
        });
    }

    private static void pokeRefused() {
        changesNothing("poke refused", x -> {
            for (int w : outside(0, 31)) {
                due("poke(" + w + ", 7)", x.poke(w, 7), false);
            }
        });
        ScoreDesk x = new ScoreDesk();
        due("poke(0, 1)", x.poke(0, 1), true);
        due("poke(31, 2)", x.poke(31, 2), true);
        due("peek(0)", x.peek(0), 1);
        due("peek(31)", x.peek(31), 2);
    }

    private static void setRefused() {
        changesNothing("set refused", x -> {
            for (int r : outside(0, 7)) {
                due("set(" + r + ", 7)", x.set(r, 7), false);
            }
        });
        ScoreDesk x = new ScoreDesk();
        due("set(0, 1)", x.set(0, 1), true);
        due("set(7, 2)", x.set(7, 2), true);
        due("value(0)", x.value(0), 1);
        due("value(7)", x.value(7), 2);
    }

    private static void exchangesAll() {
        for (int w = 0; w <= 24; w++) {
            ScoreDesk x = new ScoreDesk();
            for (int r = 0; r < 8; r++) {
                x.set(r, -1 - r);
            }
            for (int i = 0; i < 32; i++) {
                x.poke(i, 100 + i);
            }
            for (int n = 0; n < 2; n++) {
                due("exchange(" + w + ")", x.exchange(w), true);
                boolean there = n == 0;
                for (int r = 0; r < 8; r++) {
                    due("exchange(" + w + "): value(" + r + ")", x.value(r), there ? 100 + w + r : -1 - r);
                }
                for (int i = 0; i < 32; i++) {
                    boolean came = there && i >= w && i < w + 8;
                    due("exchange(" + w + "): peek(" + i + ")", x.peek(i), came ? -1 - (i - w) : 100 + i);
                }
            }
        }
    }

    private static void exchangeRefused() {
        changesNothing("exchange refused", x -> {
            for (int w : outside(0, 24)) {
                due("exchange(" + w + ")", x.exchange(w), false);
            }
            for (int w = 26; w <= 32; w++) {
                due("exchange(" + w + ")", x.exchange(w), false);
            }
        });
    }

    // ---- Promises 10 to 14

    private static void promisesTenToFourteen() {
        test("10: with registers and memory as they are, which stay as it leaves them", BoundaryTests::runsGoOn);
        test("11: Word w; 0 if there is none.", BoundaryTests::peekOutside);
        test("12: Register r; 0 if there is none.", BoundaryTests::valueOutside);
        test("13: How many instructions the latest run did.", BoundaryTests::doneAtEdges);
        test("14: The greatest WRITE of the latest run; 0 if there is none.", BoundaryTests::cyclesAtEdges);
    }

    private static void runsGoOn() {
        ScoreDesk x = with(ADD, 1, 1, 2, GO, 0, 0, 0);
        x.set(2, 1);
        due("run()", x.run(), LONG);
        due("30 of 60 were ADDs", x.value(1), 30);
        due("run() again", x.run(), LONG);
        due("30 more", x.value(1), 60);
        x = with(LOAD, 1, 0, 4, ADD, 1, 1, 1, STORE, 1, 0, 4);
        x.poke(4, 3);
        x.run();
        x.run();
        due("peek(4)", x.peek(4), 12);
        // A run that does nothing leaves all.
        x.clear();
        due("run() of nothing", x.run(), OK);
        due("peek(4)", x.peek(4), 12);
        due("value(1)", x.value(1), 12);
    }

    private static void peekOutside() {
        ScoreDesk x = new ScoreDesk();
        for (int w = 0; w < 32; w++) {
            x.poke(w, 100 + w);
        }
        for (int w = 0; w < 32; w++) {
            due("peek(" + w + ")", x.peek(w), 100 + w);
        }
        for (int w : outside(0, 31)) {
            due("peek(" + w + ")", x.peek(w), 0);
        }
    }

    private static void valueOutside() {
        ScoreDesk x = new ScoreDesk();
        for (int r = 0; r < 8; r++) {
            x.set(r, 100 + r);
        }
        for (int r = 0; r < 8; r++) {
            due("value(" + r + ")", x.value(r), 100 + r);
        }
        for (int r : outside(0, 7)) {
            due("value(" + r + ")", x.value(r), 0);
        }
    }

    private static void doneAtEdges() {
        ScoreDesk x = with(GO, 0, 0, 0);
        x.run();
        due("done() of a LONG run", x.done(), 60);
        x.run();
        due("done() of a second one", x.done(), 60);
        x.clear();
        x.add(SET, 1, 1, 0);
        due("done() before the new program is run", x.done(), 60);
        x.run();
        due("done() of one", x.done(), 1);
        x.clear();
        x.run();
        due("done() of none", x.done(), 0);
    }

    private static void cyclesAtEdges() {
        ScoreDesk x = new ScoreDesk();
        due("cycles() before a run", x.cycles(), 0);
        x.run();
        due("cycles() of nothing", x.cycles(), 0);
        x.fetch(4, 0);
        x.add(DIV, 1, 7, 7);
        x.add(SET, 2, 1, 0);
        x.run();
        due("cycles() when the first is written last", x.cycles(), 10);
        x.clear();
        x.add(SET, 2, 1, 0);
        due("cycles() before the new program is run", x.cycles(), 10);
        x.run();
        due("cycles() of a shorter run", x.cycles(), 3);
        x.clear();
        x.add(HALT, 0, 0, 0);
        x.run();
        due("cycles() of a HALT", x.cycles(), 0);
    }

    // ---- Promises 15 to 18

    private static void promisesFifteenToEighteen() {
        test("15: BAD if it, or what, is not there", BoundaryTests::timeOutside);
        test("16: what (0..6); BAD for others", BoundaryTests::lostOutside);
        test("17: had a unit of this kind in this cycle", BoundaryTests::busyInNoCycle);
        test("17: BAD if there is no such kind", BoundaryTests::busyOutside);
        test("18: BAD is tested before FULL.", BoundaryTests::badBeforeFull);
        test("18: D and A of STORE, and A of ZERO.", BoundaryTests::sourcesOfStoreAndZero);
        test("18: Before the first run done, lost and busy answer as after a run that did no instruction.",
                BoundaryTests::beforeTheFirstRun);
        test("An object is used for at most 512 calls after it has been made", BoundaryTests::lastCall);
    }

    private static void timeOutside() {
        ScoreDesk x = with(GO, 0, 0, 0);
        due("time before a run", x.time(0, 0), BAD);
        x.fetch(1, 0);
        x.run();
        dueTimes(x, 0, "0 1 2 3 3 0");
        dueTimes(x, 59, "0 178 179 180 180 0");
        for (int what = 0; what < 6; what++) {
            for (int k : outside(0, 59)) {
                due("time(" + k + ", " + what + ")", x.time(k, what), BAD);
            }
        }
        for (int k : new int[] {0, 59}) {
            for (int what : outside(0, 5)) {
                due("time(" + k + ", " + what + ")", x.time(k, what), BAD);
            }
        }
        due("time(60, 6)", x.time(60, 6), BAD);
        // What a longer run did is not there after a shorter one.
        x.clear();
        x.add(SET, 1, 1, 0);
        x.run();
        dueTimes(x, 0, "0 1 2 3 3 0");
        for (int k = 1; k < 60; k++) {
            due("time(" + k + ", 1) of a shorter run", x.time(k, 1), BAD);
        }
        x.clear();
        x.run();
        due("time(0, 1) of nothing", x.time(0, 1), BAD);
    }

    private static void lostOutside() {
        ScoreDesk x = prepared();
        for (int what : outside(0, 6)) {
            due("lost(" + what + ")", x.lost(what), BAD);
        }
        for (int what = 0; what <= 6; what++) {
            due("lost(" + what + ") is told", x.lost(what) >= 0, true);
        }
    }

    private static void busyInNoCycle() {
        ScoreDesk x = unfetched(SET, 1, 1, 0, LOAD, 2, 7, 0);
        x.run();
        int[] first = {0, 1, 1, 1, 0};
        for (int cycle = 0; cycle < first.length; cycle++) {
            due("busy(0, " + cycle + ")", x.busy(0, cycle), first[cycle]);
        }
        for (int cycle = 0; cycle < 10; cycle++) {
            due("busy(4, " + cycle + ")", x.busy(4, cycle), cycle >= 2 && cycle <= 7 ? 1 : 0);
        }
        for (int kind = 0; kind < 6; kind++) {
            for (int cycle : new int[] {0, -1, MIN, MAX, 8, 256 + 2, 65536 + 2}) {
                due("busy(" + kind + ", " + cycle + ")", x.busy(kind, cycle), 0);
            }
        }
    }

    private static void busyOutside() {
        ScoreDesk x = prepared();
        for (int kind : outside(0, 5)) {
            for (int cycle : new int[] {MIN, 0, 1, 20, MAX}) {
                due("busy(" + kind + ", " + cycle + ")", x.busy(kind, cycle), BAD);
            }
        }
        for (int kind = 0; kind < 6; kind++) {
            due("busy(" + kind + ", 0)", x.busy(kind, 0), 0);
        }
    }

    private static void badBeforeFull() {
        ScoreDesk x = fullWithJump(HALT, 0, 0);
        for (int op : outside(0, 10)) {
            due("op " + op + " to 24", x.add(op, 0, 0, 0), BAD);
        }
        for (int op = SET; op <= STORE; op++) {
            due("op " + op + " d 8 to 24", x.add(op, 8, 0, 0), BAD);
            due("op " + op + " d -1 to 24", x.add(op, -1, 0, 0), BAD);
        }
        for (int op = ADD; op <= ZERO; op++) {
            due("op " + op + " a 8 to 24", x.add(op, 0, 8, 0), BAD);
            due("op " + op + " a -1 to 24", x.add(op, 0, -1, 0), BAD);
        }
        for (int op = ADD; op <= DIV; op++) {
            due("op " + op + " b 8 to 24", x.add(op, 0, 0, 8), BAD);
            due("op " + op + " b -1 to 24", x.add(op, 0, 0, -1), BAD);
        }
        for (int op = ZERO; op <= GO; op++) {
            due("op " + op + " b 24 to 24", x.add(op, 0, 0, 24), BAD);
            due("op " + op + " b -1 to 24", x.add(op, 0, 0, -1), BAD);
        }
        due("a good one to 24", x.add(GO, 0, 0, 23), FULL);
        due("clear()", x.clear(), 24);
    }

    /** The READ of an instruction that is issued in 2, while register 3 is written in 10. */
    private static void dueRead(int op, int d, int a, int b, int want) {
        ScoreDesk x = unfetched(DIV, 3, 7, 7, op, d, a, b);
        x.run();
        due("op " + op + " of " + d + ", " + a + ", " + b + ": READ", x.time(1, 2), want);
    }

    private static void sourcesOfStoreAndZero() {
        dueRead(STORE, 3, 2, 0, 11);
        dueRead(STORE, 2, 3, 0, 11);
        dueRead(STORE, 3, 3, 0, 11);
        dueRead(STORE, 2, 2, 3, 3);
        dueRead(ZERO, 2, 3, 2, 11);
        dueRead(ZERO, 3, 2, 3, 3);
        dueRead(GO, 3, 3, 3, 3);
        dueRead(SET, 2, 3, 3, 3);
        dueRead(LOAD, 2, 3, 0, 11);
        dueRead(LOAD, 2, 2, 3, 3);
        // They hold back the WRITE of what they read, and nothing else.
        ScoreDesk x = unfetched(DIV, 1, 7, 7, STORE, 3, 1, 0, SET, 3, 9, 0);
        x.run();
        dueTimes(x, 2, "2 3 4 5 12 0");
        x = unfetched(DIV, 1, 7, 7, STORE, 1, 3, 3, SET, 3, 9, 0);
        x.run();
        dueTimes(x, 2, "2 3 4 5 12 0");
        x = unfetched(DIV, 1, 7, 7, LOAD, 2, 1, 3, SET, 3, 9, 0);
        x.run();
        dueTimes(x, 2, "2 3 4 5 5 0");
    }

    private static void beforeTheFirstRun() {
        ScoreDesk x = new ScoreDesk();
        ScoreDesk y = new ScoreDesk();
        y.run();
        due("done()", x.done(), y.done());
        for (int what = -1; what <= 7; what++) {
            due("lost(" + what + ")", x.lost(what), y.lost(what));
            due("lost(" + what + ")", x.lost(what), what < 0 || what > 6 ? BAD : 0);
        }
        for (int kind = -1; kind <= 6; kind++) {
            for (int cycle : new int[] {MIN, -1, 0, 1, 2, MAX}) {
                due("busy(" + kind + ", " + cycle + ")", x.busy(kind, cycle), y.busy(kind, cycle));
                due("busy(" + kind + ", " + cycle + ")", x.busy(kind, cycle), kind < 0 || kind > 5 ? BAD : 0);
            }
        }
        // So too with a program that was not run yet.
        x.add(SET, 1, 1, 0);
        due("done()", x.done(), 0);
        dueLost(x, "0 0 0 0 0 0 0");
        due("busy(0, 3)", x.busy(0, 3), 0);
    }

    private static void lastCall() {
        ScoreDesk x = new ScoreDesk();
        x.add(ADD, 1, 1, 2);
        x.add(GO, 0, 0, 0);
        x.set(2, 1);
        for (int n = 4; n <= 510; n++) {
            x.run();
        }
        due("call 511", x.value(1), 507 * 30);
        // The ADDs are issued in 3, 7, .. 119.
        due("call 512", x.cycles(), 122);
    }
}
