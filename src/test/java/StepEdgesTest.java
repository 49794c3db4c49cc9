/** Promise 8 with the terms, sentence by sentence: steps, instruction words, addresses, faults 1 to 3, the quantum. */
public final class StepEdgesTest {
    private static final int MIN = Integer.MIN_VALUE;
    private static final int MAX = Integer.MAX_VALUE;
    private static final int LEAST_N = -(1 << 17);
    private static final int MOST_N = (1 << 17) - 1;
    private static final int BASE = 20;
    private static final int LENGTH = 6;
    private static final int COUNTER = 2;
    private static final Check CHECK = new Check("StepEdgesTest");

    public static void main(String[] args) {
        steps();
        untilTheRowIsEmpty();
        fields();
        instructions();
        jumps();
        wrapping();
        goodAddresses();
        badAddresses();
        badCounters();
        unknownOps();
        faults();
        counterBeforeLeaving();
        leavingTheRow();
        goingToTheEnd();
        beginningWithZero();
        becomingReady();
        CHECK.finish();
    }

    private static void due(String what, long got, long want) {
        CHECK.due(what, got, want);
    }

    private static void changes(String what, Picture.Maker maker, Picture.Act act, String want) {
        CHECK.due(what, Picture.changes(maker, act), want);
    }

    /**
     * Thread 0 is about to run the word at counter 2 of its words 20 to 25; thread 1 is ready too.
     * No word, register or slot A to be used by chance is 0 or empty.
     */
    private static GrantKernel about(int word) {
        GrantKernel x = new GrantKernel(8);
        for (int a = 0; a < 128; a++) {
            x.poke(a, 2000 + a);
        }
        x.poke(BASE + COUNTER, word);
        x.spawn(COUNTER, BASE, LENGTH);
        x.spawn(0, 60, 4);
        int[] registers = {-3, 2, 5, 0, MAX, MIN, 40, 9};
        for (int r = 0; r < 8; r++) {
            x.put(0, r, registers[r]);
            x.put(1, r, 100 + r);
        }
        x.give(0, 0, 1, 0, 7);
        x.give(0, 1, 2, 0, 7);
        return x;
    }

    /** What one step of thread 0 changes. */
    private static void stepChanges(String what, int word, String want) {
        changes(what, () -> about(word), x -> x.step(1), want);
    }

    private static void faultChanges(String what, int word, int fault) {
        stepChanges(what, word, "state 0: 1 -> 5; fault 0: 0 -> " + fault + "; row: [0 1] -> [1]");
    }

    private static void steps() {
        CHECK.says("NONE when n is not 1 .. 50");
        for (int n : new int[] {0, -1, 51, 52, 100, -50, MIN, MIN + 1, MAX}) {
            due("step " + n, Scene.busy().step(n), -1);
            due("step " + n + " of an empty row", new GrantKernel(1).step(n), -1);
            changes("step " + n, Scene::busy, x -> x.step(n), "nothing");
            CHECK.due("step " + n + ", later on", Picture.between(() -> {
                GrantKernel x = Scene.busy();
                Scene.goOn(x);
                return x;
            }, () -> {
                GrantKernel x = Scene.busy();
                x.step(n);
                Scene.goOn(x);
                return x;
            }), "nothing");
        }

        CHECK.says("Makes n steps");
        for (int n = 1; n <= 50; n++) {
            GrantKernel x = new GrantKernel(3);
            Code.start(x, 0, Code.word(3, 1, 1, 2, 0), Code.go(0));
            x.put(0, 2, 1);
            due("step " + n, x.step(n), n);
            due("step " + n + " ran", 2 * x.register(0, 1) - x.counter(0), n);
        }
    }

    private static void untilTheRowIsEmpty() {
        CHECK.says("or as many as there are until the row is empty. Answers how many");
        due("an empty row", new GrantKernel(3).step(1), 0);
        due("an empty row, at most", new GrantKernel(3).step(50), 0);
        for (int words : new int[] {1, 2, 3, 49, 50, 51, 99, 100}) {
            GrantKernel x = new GrantKernel(3);
            for (int a = 0; a < words - 1; a++) {
                x.poke(a, Code.set(1, a));
            }
            x.spawn(0, 0, words);
            due(words + " words", x.step(50), Math.min(50, words));
            due(words + " words, then", x.step(50), Math.min(50, words - Math.min(50, words)));
            due(words + " words, at last", x.step(50), 0);
            due(words + " words: halted", x.state(0), 6);
        }
        GrantKernel x = new GrantKernel(3);
        for (int t = 0; t < 6; t++) {
            x.spawn(-1, 0, 1);
        }
        due("a fault is a step", x.step(50), 6);
        GrantKernel exact = new GrantKernel(3);
        for (int t = 0; t < 6; t++) {
            exact.spawn(0, 0, 1);
        }
        due("just as many", exact.step(6), 6);
        due("none left", exact.step(1), 0);
    }

    private static void fields() {
        CHECK.says("its OP is w & 31, A = w >> 5 & 7, B = w >> 8 & 7, C = w >> 11 & 7, N = w >> 14 (with its sign)");
        for (int n : new int[] {LEAST_N, LEAST_N + 1, -1, 0, 1, MOST_N - 1, MOST_N}) {
            for (int rest : new int[] {0, 7}) {
                stepChanges("N " + n, Code.word(1, 6, rest, rest, n),
                    "counter 0: 2 -> 3; register 0.6: 40 -> " + n);
            }
        }
        int[] registers = {-3, 2, 5, 0, MAX, MIN, 40, 9};
        for (int i = 0; i < 8; i++) {
            for (int n : new int[] {LEAST_N, -1, 0, MOST_N}) {
                int b = (i + 1) & 7;
                int c = (i + 3) & 7;
                int word = Code.word(4, i, b, c, n);
                GrantKernel x = about(word);
                x.step(1);
                for (int r = 0; r < 8; r++) {
                    due("register " + r + " after " + word, x.register(0, r),
                        r == i ? registers[b] - registers[c] : registers[r]);
                }
            }
        }
    }

    private static void instructions() {
        CHECK.says("0: the thread is halted");
        String halts = "state 0: 1 -> 6; counter 0: 2 -> 3; row: [0 1] -> [1]";
        stepChanges("halt", 0, halts);
        stepChanges("halt, other bits set", Code.word(0, 7, 7, 7, -1), halts);
        CHECK.says("2: a = b.  3: a = b + c.  4: a = b - c.  5: a = b * c.  6: a = b & c.  7: a = b ^ c");
        int[] want = {2, 2 + 9, 2 - 9, 2 * 9, 2 & 9, 2 ^ 9};
        for (int op = 2; op <= 7; op++) {
            stepChanges("op " + op, Code.word(op, 6, 1, 7, 3), "counter 0: 2 -> 3; register 0.6: 40 -> " + want[op - 2]);
        }
        stepChanges("a, b and c are one", Code.word(5, 7, 7, 7, 0), "counter 0: 2 -> 3; register 0.7: 9 -> 81");
        CHECK.says("8: a = the word at b + N.  9: the word at b + N = a");
        stepChanges("load", Code.load(6, 1, 1), "counter 0: 2 -> 3; register 0.6: 40 -> 2023");
        stepChanges("load over b", Code.load(1, 1, 1), "counter 0: 2 -> 3; register 0.1: 2 -> 2023");
        stepChanges("store", Code.store(6, 1, 1), "counter 0: 2 -> 3; word 23: 2023 -> 40");
        stepChanges("store b itself", Code.store(1, 1, 1), "counter 0: 2 -> 3; word 23: 2023 -> 2");
        int own = Code.store(6, 1, 0);
        stepChanges("store over itself", own, "counter 0: 2 -> 3; word 22: " + own + " -> 40");
        CHECK.says("13: YIELD");
        stepChanges("yield", Code.YIELD, "counter 0: 2 -> 3; row: [0 1] -> [1 0]");
        stepChanges("yield, other bits set", Code.word(13, 7, 7, 7, -1), "counter 0: 2 -> 3; row: [0 1] -> [1 0]");
        CHECK.says("22: a = 1 if there is a capability in slot B, else 0");
        stepChanges("there is", Code.has(6, 1), "counter 0: 2 -> 3; register 0.6: 40 -> 1");
        stepChanges("there is in slot 0", Code.has(6, 0), "counter 0: 2 -> 3; register 0.6: 40 -> 1");
        for (int s = 2; s < 8; s++) {
            stepChanges("there is none in slot " + s, Code.has(6, s), "counter 0: 2 -> 3; register 0.6: 40 -> 0");
        }
    }

    private static void jumps() {
        CHECK.says("10: go to N.  11: go to N if a is 0.  12: go to N if a is below 0");
        int[] registers = {-3, 2, 5, 0, MAX, MIN, 40, 9};
        for (int r = 0; r < 8; r++) {
            stepChanges("go", Code.word(10, r, r, r, 5), "counter 0: 2 -> 5");
            int a = registers[r];
            stepChanges("go if 0, " + a, Code.goIfZero(r, 5), "counter 0: 2 -> " + (a == 0 ? 5 : 3));
            stepChanges("go if below, " + a, Code.goIfBelow(r, 5), "counter 0: 2 -> " + (a < 0 ? 5 : 3));
        }
        for (int a : new int[] {-1, 1, 0}) {
            GrantKernel x = new GrantKernel(8);
            Code.start(x, 0, Code.goIfZero(1, 5), Code.goIfBelow(1, 7));
            x.put(0, 1, a);
            x.step(1);
            due("go if 0, " + a, x.counter(0), a == 0 ? 5 : 1);
            x.step(1);
            due("go if below, " + a, x.counter(0), a == 0 ? 5 : a < 0 ? 7 : 2);
        }
        CHECK.says("the counter becomes 1 more (or N, for 10 to 12 that go)");
        for (int n : new int[] {LEAST_N, -1, 6, 7, 128, MOST_N}) {
            stepChanges("go to " + n, Code.go(n), "counter 0: 2 -> " + n);
            stepChanges("go if 0 to " + n, Code.goIfZero(3, n), "counter 0: 2 -> " + n);
            stepChanges("go if below to " + n, Code.goIfBelow(0, n), "counter 0: 2 -> " + n);
            stepChanges("not to " + n, Code.goIfZero(0, n), "counter 0: 2 -> 3");
            stepChanges("nor to " + n, Code.goIfBelow(3, n), "counter 0: 2 -> 3");
        }
        changes("go to itself", () -> about(Code.go(COUNTER)), x -> x.step(1), "nothing");
        GrantKernel x = about(Code.set(1, 1));
        x.spawn(LENGTH - 1, BASE, LENGTH);
        x.poke(BASE + LENGTH - 1, Code.set(1, 1));
        x.step(50);
        due("from the last word to one beyond", x.counter(2), LENGTH);
        due("and there it is a fault", x.fault(2), 1);
    }

    private static void wrapping() {
        CHECK.says("Sums and products wrap");
        int[][] cases = {{3, MAX, 1, MIN}, {3, MIN, -1, MAX}, {3, MAX, MAX, -2}, {3, MIN, MIN, 0}, {4, MIN, 1, MAX},
            {4, MAX, -1, MIN}, {4, 0, MIN, MIN}, {4, MIN, MIN, 0}, {4, -2, MAX, MAX}, {5, MAX, 2, -2}, {5, MIN, -1, MIN},
            {5, 65536, 65536, 0}, {5, 46341, 46341, -2147479015}, {5, MAX, MAX, 1}, {5, MIN, 2, 0}, {5, 65536, 32768, MIN},
            {6, MIN, MAX, 0}, {6, -1, MIN, MIN}, {7, MIN, MAX, -1}, {7, MIN, MIN, 0}};
        for (int[] c : cases) {
            GrantKernel x = new GrantKernel(8);
            Code.start(x, 0, Code.word(c[0], 3, 4, 5, -1));
            x.put(0, 4, c[1]);
            x.put(0, 5, c[2]);
            x.step(1);
            due("op " + c[0] + " of " + c[1] + " and " + c[2], x.register(0, 3), c[3]);
        }
    }

    private static void goodAddresses() {
        CHECK.says("Addresses count from the thread's base; 0 .. LENGTH - 1 are good");
        int[][] pieces = {{0, 128}, {0, 1}, {127, 1}, {20, 6}, {64, 64}, {1, 127}};
        for (int[] p : pieces) {
            for (int address : new int[] {-1, 0, p[1] - 1, p[1], 128 - p[0], -p[0], -p[0] - 1}) {
                for (int[] sum : new int[][] {{address, 0}, {0, address}, {address - 5, 5}, {address + 5, -5},
                    {address - MOST_N, MOST_N}, {address - LEAST_N, LEAST_N}}) {
                    oneAddress(p[0], p[1], sum[0], sum[1]);
                }
            }
        }
    }

    private static void oneAddress(int base, int length, int b, int n) {
        int address = b + n;
        boolean good = address >= 0 && address < length;
        String what = b + " + " + n + " in " + base + ", " + length;
        GrantKernel load = reaching(base, length, Code.load(1, 2, n), b);
        // The first word of the piece holds the instruction itself.
        int there = !good ? 55 : address == 0 ? Code.load(1, 2, n) : 3000 + base + address;
        due("load at " + what, load.register(0, 1), there);
        due("load at " + what + ": fault", load.fault(0), good ? 0 : 2);
        GrantKernel store = reaching(base, length, Code.store(1, 2, n), b);
        due("store at " + what + ": fault", store.fault(0), good ? 0 : 2);
        for (int a = 0; a < 128; a++) {
            int before = a == base ? Code.store(1, 2, n) : 3000 + a;
            due("store at " + what + ": word " + a, store.peek(a), good && a == base + address ? 55 : before);
        }
    }

    private static GrantKernel reaching(int base, int length, int word, int b) {
        GrantKernel x = new GrantKernel(8);
        for (int a = 0; a < 128; a++) {
            x.poke(a, 3000 + a);
        }
        x.poke(base, word);
        x.spawn(0, base, length);
        x.put(0, 1, 55);
        x.put(0, 2, b);
        x.step(1);
        return x;
    }

    private static void badAddresses() {
        CHECK.says("An address that is not good: 2");
        // Register 3 is 0, register 1 is 2.
        for (int n : new int[] {-1, 6, 7, 105, 106, 107, 108, -20, -21, LEAST_N, MOST_N}) {
            faultChanges("load at " + n, Code.load(6, 3, n), 2);
            faultChanges("store at " + n, Code.store(6, 3, n), 2);
        }
        faultChanges("load one before", Code.load(6, 1, -3), 2);
        faultChanges("load one beyond", Code.load(6, 1, 4), 2);
        stepChanges("load the first", Code.load(6, 1, -2), "counter 0: 2 -> 3; register 0.6: 40 -> 2020");
        stepChanges("load the last", Code.load(6, 1, 3), "counter 0: 2 -> 3; register 0.6: 40 -> 2025");
        stepChanges("store the first", Code.store(6, 1, -2), "counter 0: 2 -> 3; word 20: 2020 -> 40");
        stepChanges("store the last", Code.store(6, 1, 3), "counter 0: 2 -> 3; word 25: 2025 -> 40");
        CHECK.says("b + N being taken exactly");
        // Register 4 is the greatest int, register 5 the least.
        for (int n : new int[] {LEAST_N, -1, 0, 1, 2, 6, MOST_N}) {
            for (int b = 4; b <= 5; b++) {
                faultChanges("load from an end, N " + n, Code.load(6, b, n), 2);
                faultChanges("store to an end, N " + n, Code.store(6, b, n), 2);
            }
        }
    }

    private static void badCounters() {
        CHECK.says("when the counter is not 0 .. LENGTH - 1, fault 1");
        int[][] pieces = {{0, 128}, {0, 1}, {127, 1}, {20, 6}, {0, 0}, {128, 0}, {60, 0}, {64, 64}};
        for (int[] p : pieces) {
            for (int c : new int[] {MIN, -128, -p[0], -1, 0, 1, p[1] - 1, p[1], p[1] + 1, 127, 128, MAX}) {
                boolean good = c >= 0 && c < p[1];
                Picture.Maker maker = () -> {
                    GrantKernel x = new GrantKernel(8);
                    for (int a = 0; a < 128; a++) {
                        x.poke(a, Code.set(3, 44));
                    }
                    x.spawn(c, p[0], p[1]);
                    return x;
                };
                changes("counter " + c + " in " + p[0] + ", " + p[1], maker, x -> x.step(1),
                    good ? "counter 0: " + c + " -> " + (c + 1) + "; register 0.3: 0 -> 44"
                        : "state 0: 1 -> 5; fault 0: 0 -> 1; row: [0] -> []");
            }
        }
    }

    private static void unknownOps() {
        CHECK.says("OP above 22: fault 3");
        for (int op = 23; op < 32; op++) {
            faultChanges("op " + op, op, 3);
            faultChanges("op " + op + ", other bits set", Code.word(op, 7, 7, 7, -1), 3);
            faultChanges("op " + op + ", some bits set", Code.word(op, 0, 1, 2, 1), 3);
        }
        faultChanges("all bits set", -1, 3);
        due("22 is none such", faultOf(Code.word(22, 7, 7, 7, -1)), 0);
        // The ops at and below 22 that need neither an address nor a capability have no fault at all.
        for (int op : new int[] {0, 1, 2, 3, 4, 5, 6, 7, 10, 11, 12, 13, 18, 22}) {
            for (int rest : new int[] {0, 7}) {
                due("op " + op, faultOf(Code.word(op, rest, rest, rest, -rest)), 0);
            }
        }
    }

    private static int faultOf(int word) {
        GrantKernel x = new GrantKernel(8);
        Code.start(x, 0, word);
        x.step(1);
        return x.fault(0);
    }

    private static void faults() {
        CHECK.says("A fault changes nothing but that the thread is faulted");
        // Words that would change much if they were not at fault, each with its fault.
        int[][] words = {{Code.load(6, 3, 6), 2}, {Code.store(6, 3, -1), 2}, {Code.word(31, 6, 1, 7, 5), 3},
            {Code.print(0, 6), 4}, {Code.send(1, 6), 4}, {Code.callWith(1, 6, 0), 4}, {Code.receive(1, 6, 2), 4},
            {Code.mint(2, 3, 7), 4}, {Code.mint(0, 1, 7), 5}, {Code.remove(2), 4}, {Code.revoke(2), 4}};
        for (int[] pair : words) {
            faultChanges("word " + pair[0], pair[0], pair[1]);
            GrantKernel x = about(pair[0]);
            x.step(1);
            due("the next one runs", x.step(1), 1);
            due("the faulted one stays so", x.state(0), 5);
            x.poke(BASE + COUNTER, Code.set(6, 1));
            x.step(50);
            due("and runs no more", x.register(0, 6), 40);
            due("fault " + pair[1] + " stays", x.fault(0), pair[1]);
        }
        changes("fault 1", () -> {
            GrantKernel x = about(Code.go(LENGTH));
            x.step(1);
            return x;
        }, x -> x.step(1), "state 0: 1 -> 5; fault 0: 0 -> 1; row: [0 1] -> [1]");
    }

    private static void counterBeforeLeaving() {
        CHECK.says("before the thread is taken out of the row, if it is");
        String waits = "; counter 0: 2 -> 3; row: [0 1] -> [1]; row of 0: [] -> [0]";
        stepChanges("sending", Code.send(0, 1), "state 0: 1 -> 2" + waits);
        stepChanges("calling", Code.call(0, 1), "state 0: 1 -> 2" + waits);
        stepChanges("receiving", Code.receive(0, 1, 2), "state 0: 1 -> 4" + waits);
    }

    /** The threads that ran, in order, told by who was first before each step. */
    private static String order(GrantKernel x, int steps) {
        StringBuilder text = new StringBuilder();
        for (int i = 0; i < steps; i++) {
            text.append(x.inRow(-1, 0)).append(' ');
            x.step(1);
        }
        return text.toString().trim();
    }

    private static void leavingTheRow() {
        CHECK.says("A thread that is not ready any more leaves the row");
        int[] leaving = {Code.HALT, 31, Code.send(0, 1), Code.call(0, 1), Code.receive(0, 1, 1), Code.load(1, 1, 9)};
        for (int word : leaving) {
            for (int quantum = 1; quantum <= 2; quantum++) {
                GrantKernel x = new GrantKernel(quantum);
                Code.start(x, 0, word);
                Code.start(x, 10, Code.go(0));
                Code.start(x, 20, Code.go(0));
                x.give(0, 0, 1, 0, 7);
                x.step(1);
                CHECK.due("word " + word + " at the quantum " + quantum, Picture.row(x, -1), "[1 2]");
            }
        }
    }

    private static void goingToTheEnd() {
        CHECK.says("If it is still ready, and it was YIELD, or it has now run as many instructions in a row as the "
            + "QUANTUM, it goes to the end of the row");
        for (int quantum = 1; quantum <= 8; quantum++) {
            GrantKernel x = new GrantKernel(quantum);
            x.poke(0, Code.go(0));
            for (int t = 0; t < 3; t++) {
                x.spawn(0, 0, 1);
            }
            StringBuilder want = new StringBuilder();
            for (int i = 0; i < 4 * quantum; i++) {
                want.append(i / quantum % 3).append(' ');
            }
            CHECK.due("quantum " + quantum, order(x, 4 * quantum), want.toString().trim());
            GrantKernel y = new GrantKernel(quantum);
            y.poke(0, Code.YIELD);
            y.poke(1, Code.go(0));
            for (int t = 0; t < 3; t++) {
                y.spawn(0, 0, 2);
            }
            CHECK.due("yield at once, quantum " + quantum, order(y, 4), "0 1 2 0");
        }
        GrantKernel last = new GrantKernel(2);
        Code.start(last, 0, Code.set(1, 1), Code.YIELD, Code.go(2));
        Code.start(last, 10, Code.go(0));
        Code.start(last, 20, Code.go(0));
        CHECK.due("yield as the last of the quantum", order(last, 9), "0 0 1 1 2 2 0 0 1");
        GrantKernel alone = new GrantKernel(1);
        Code.start(alone, 0, Code.YIELD, Code.go(0));
        due("alone", alone.step(50), 50);
        CHECK.due("alone, the row", Picture.row(alone, -1), "[0]");
    }

    private static void beginningWithZero() {
        CHECK.says("What the first of the row has run in a row begins with 0 when another thread becomes the first");
        int[] leaving = {Code.HALT, 31, Code.send(0, 1), Code.call(0, 1), Code.receive(0, 1, 1)};
        for (int word : leaving) {
            GrantKernel x = new GrantKernel(3);
            Code.start(x, 0, Code.set(1, 1), word);
            Code.start(x, 10, Code.go(0));
            Code.start(x, 20, Code.go(0));
            x.give(0, 0, 1, 0, 7);
            CHECK.due("after word " + word, order(x, 9), "0 0 1 1 1 2 2 2 1");
        }
        GrantKernel woken = new GrantKernel(3);
        Code.start(woken, 0, Code.set(1, 1), Code.receive(0, 2, 2), Code.go(2));
        Code.start(woken, 10, Code.send(0, 1), Code.go(1));
        woken.give(0, 0, 1, 0, 2);
        woken.give(1, 0, 1, 0, 1);
        CHECK.due("woken, it begins anew", order(woken, 9), "0 0 1 1 1 0 0 0 1");

        CHECK.says("and when it goes to the end of the row");
        GrantKernel yields = new GrantKernel(3);
        Code.start(yields, 0, Code.set(1, 1), Code.YIELD, Code.go(2));
        Code.start(yields, 10, Code.go(0));
        CHECK.due("yield", order(yields, 9), "0 0 1 1 1 0 0 0 1");
        GrantKernel alone = new GrantKernel(3);
        Code.start(alone, 0, Code.set(1, 1), Code.YIELD, Code.go(2));
        alone.step(2);
        Code.start(alone, 10, Code.go(0));
        CHECK.due("yield alone", order(alone, 4), "0 0 0 1");
        GrantKernel quantumAlone = new GrantKernel(3);
        Code.start(quantumAlone, 0, Code.go(0));
        quantumAlone.step(4);
        Code.start(quantumAlone, 10, Code.go(0));
        CHECK.due("quantum alone", order(quantumAlone, 3), "0 0 1");
        GrantKernel acrossCalls = new GrantKernel(8);
        Code.start(acrossCalls, 0, Code.go(0));
        Code.start(acrossCalls, 10, Code.go(0));
        acrossCalls.step(7);
        due("seven of eight", acrossCalls.inRow(-1, 0), 0);
        acrossCalls.step(1);
        due("eight of eight, in another call", acrossCalls.inRow(-1, 0), 1);
    }

    private static void becomingReady() {
        CHECK.says("A thread that becomes ready comes to its end");
        GrantKernel x = new GrantKernel(1);
        Code.start(x, 0, Code.receive(0, 1, 1), Code.go(1));
        Code.start(x, 10, Code.send(0, 1), Code.go(1));
        Code.start(x, 20, Code.go(0));
        x.give(0, 0, 1, 0, 2);
        x.give(1, 0, 1, 0, 1);
        x.step(1);
        CHECK.due("one waits", Picture.row(x, -1), "[1 2]");
        x.step(1);
        // It comes to the end first, and the one that has run its quantum after it.
        CHECK.due("woken by a send", Picture.row(x, -1), "[2 0 1]");
        x.spawn(0, 20, 1);
        CHECK.due("spawned", Picture.row(x, -1), "[2 0 1 3]");
        GrantKernel y = new GrantKernel(1);
        Code.start(y, 0, Code.call(0, 1), Code.go(1));
        Code.start(y, 10, Code.receive(0, 1, 1), Code.answer(1), Code.go(2));
        Code.start(y, 20, Code.go(0));
        y.give(0, 0, 1, 0, 1);
        y.give(1, 0, 1, 0, 2);
        y.step(2);
        CHECK.due("answered later", Picture.row(y, -1), "[2 1]");
        y.step(2);
        CHECK.due("answered", Picture.row(y, -1), "[2 0 1]");
        GrantKernel z = new GrantKernel(1);
        Code.start(z, 0, Code.send(0, 1), Code.go(1));
        Code.start(z, 10, Code.receive(0, 1, 1), Code.go(1));
        Code.start(z, 20, Code.go(0));
        z.give(0, 0, 1, 0, 1);
        z.give(1, 0, 1, 0, 2);
        z.step(2);
        CHECK.due("woken by a receive", Picture.row(z, -1), "[2 0 1]");
    }
}
