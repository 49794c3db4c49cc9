/** Promise 8: the instructions 0 to 13 and 22, their faults, and the counter. */
public final class InstructionTest {
    private static final int MIN = Integer.MIN_VALUE;
    private static final int MAX = Integer.MAX_VALUE;
    private static final Check CHECK = new Check("InstructionTest");

    public static void main(String[] args) {
        arithmetic();
        sameRegisters();
        numbers();
        memory();
        addresses();
        going();
        counters();
        unknownOps();
        fieldsAreReadFromTheWord();
        changesItself();
        someLeaveTheRegisters();
        CHECK.finish();
    }

    private static void due(String what, long got, long want) {
        CHECK.due(what, got, want);
    }

    private static void arithmetic() {
        int[] values = {0, 1, -1, 2, 77, 65537, MIN, MAX, 0x12345678, -123456789};
        for (int b : values) {
            for (int c : values) {
                int[] want = {b, b + c, b - c, b * c, b & c, b ^ c};
                for (int op = 2; op <= 7; op++) {
                    GrantKernel x = new GrantKernel(8);
                    Code.start(x, 5, Code.word(op, 3, 4, 5, 0));
                    x.put(0, 4, b);
                    x.put(0, 5, c);
                    x.step(1);
                    String what = "op " + op + " of " + b + ", " + c;
                    due(what, x.register(0, 3), want[op - 2]);
                    due(what + " leaves b", x.register(0, 4), b);
                    due(what + " leaves c", x.register(0, 5), c);
                    due(what + " counter", x.counter(0), 1);
                }
            }
        }
    }

    private static void sameRegisters() {
        GrantKernel x = new GrantKernel(8);
        Code.start(x, 0, Code.word(3, 7, 7, 7, 0), Code.word(5, 7, 7, 7, 0), Code.word(4, 0, 7, 7, 0));
        x.put(0, 7, 21);
        x.put(0, 0, 9);
        x.step(3);
        due("doubled and squared", x.register(0, 7), 42 * 42);
        due("its own difference", x.register(0, 0), 0);
    }

    private static void numbers() {
        int least = -(1 << 17);
        int most = (1 << 17) - 1;
        for (int n : new int[] {0, 1, -1, 5, most, least}) {
            GrantKernel x = new GrantKernel(8);
            Code.start(x, 0, Code.set(6, n));
            x.step(1);
            due("set " + n, x.register(0, 6), n);
        }
    }

    private static void memory() {
        GrantKernel x = new GrantKernel(8);
        Code.start(x, 10, Code.load(1, 2, 3), Code.store(1, 3, -4), Code.load(4, 5, 0), 777, 0);
        x.put(0, 3, 8);
        x.poke(3, -1);
        x.step(1);
        due("loaded from its own piece", x.register(0, 1), 777);
        x.step(1);
        due("stored into its own piece", x.peek(14), 777);
        due("not elsewhere", x.peek(4), 0);
        x.step(1);
        due("loaded its own code", x.register(0, 4), Code.load(1, 2, 3));
    }

    private static void addresses() {
        int length = 6;
        long[][] cases = {{0, 0}, {5, 0}, {6, 0}, {-1, 0}, {0, 5}, {0, 6}, {0, -1}, {-3, 3}, {-3, 8}, {-3, 9}, {7, -2},
            {7, -1}, {MAX, 1}, {MAX, 0}, {MIN, -1}, {MIN, 0}, {MAX, -(1 << 17)}, {MIN, (1 << 17) - 1}, {128, 0},
            {MAX, 6}, {MIN, -6}};
        for (long[] pair : cases) {
            long address = pair[0] + pair[1];
            boolean good = address >= 0 && address < length;
            for (int op = 8; op <= 9; op++) {
                GrantKernel x = new GrantKernel(8);
                for (int a = 0; a < 128; a++) {
                    x.poke(a, 1000 + a);
                }
                x.poke(20, Code.word(op, 1, 2, 0, (int) pair[1]));
                x.spawn(0, 20, length);
                x.put(0, 1, 55);
                x.put(0, 2, (int) pair[0]);
                int before = good ? x.peek(20 + (int) address) : 0;
                x.step(1);
                String what = "op " + op + " at " + pair[0] + " + " + pair[1];
                due(what + " fault", x.fault(0), good ? 0 : 2);
                due(what + " state", x.state(0), good ? 1 : 5);
                due(what + " counter", x.counter(0), good ? 1 : 0);
                due(what + " register", x.register(0, 1), good && op == 8 ? before : 55);
                if (good && op == 9) {
                    due(what + " word", x.peek(20 + (int) address), 55);
                }
                due(what + " word before", x.peek(19), 1019);
                due(what + " word after", x.peek(26), 1026);
            }
        }
    }

    private static void going() {
        int[] values = {0, 1, -1, MIN, MAX};
        for (int a : values) {
            GrantKernel x = new GrantKernel(8);
            Code.start(x, 0, Code.goIfZero(1, 9));
            Code.start(x, 1, Code.goIfBelow(1, 9));
            Code.start(x, 2, Code.go(9));
            for (int t = 0; t < 3; t++) {
                x.put(t, 1, a);
            }
            x.step(50);
            due("go if zero, " + a, x.counter(0), a == 0 ? 9 : 1);
            due("go if below, " + a, x.counter(1), a < 0 ? 9 : 1);
            due("go, " + a, x.counter(2), 9);
            due("register, " + a, x.register(1, 1), a);
        }
    }

    private static void counters() {
        for (int n : new int[] {-1, 3, 4, -(1 << 17), (1 << 17) - 1}) {
            GrantKernel x = new GrantKernel(8);
            Code.start(x, 0, Code.go(n), 0, 0);
            due("go to " + n, x.step(1), 1);
            due("counter " + n, x.counter(0), n);
            due("still ready " + n, x.state(0), 1);
            due("fault step " + n, x.step(9), 1);
            due("fault " + n, x.fault(0), 1);
            due("state " + n, x.state(0), 5);
            due("counter stays " + n, x.counter(0), n);
            due("left the row " + n, x.inRow(-1, 0), -1);
        }
        GrantKernel x = new GrantKernel(8);
        Code.start(x, 0, Code.set(1, 1), Code.set(1, 2));
        due("past the end", x.step(50), 3);
        due("past the end: fault", x.fault(0), 1);
        due("past the end: counter", x.counter(0), 2);
        due("past the end: register", x.register(0, 1), 2);
    }

    private static void unknownOps() {
        for (int op = 0; op < 32; op++) {
            GrantKernel x = new GrantKernel(8);
            Code.start(x, 0, Code.word(op, 0, 1, 2, -1));
            for (int s = 0; s < 8; s += 2) {
                x.give(0, s, 1, 0, 7);
            }
            x.put(0, 1, 1);
            x.step(1);
            boolean unknown = op > 22;
            due("op " + op + " unknown", x.fault(0) == 3 ? 1 : 0, unknown ? 1 : 0);
            if (unknown) {
                due("op " + op + " state", x.state(0), 5);
                due("op " + op + " counter", x.counter(0), 0);
            }
        }
    }

    private static void fieldsAreReadFromTheWord() {
        for (int i = 0; i < 8; i++) {
            GrantKernel x = new GrantKernel(8);
            Code.start(x, 0, Code.word(3, i, (i + 1) & 7, (i + 3) & 7, -1));
            for (int r = 0; r < 8; r++) {
                x.put(0, r, 1 << r);
            }
            x.step(1);
            for (int r = 0; r < 8; r++) {
                int want = r == i ? (1 << ((i + 1) & 7)) + (1 << ((i + 3) & 7)) : 1 << r;
                due("register " + r + " after an add into " + i, x.register(0, r), want);
            }
        }
    }

    private static void changesItself() {
        GrantKernel x = new GrantKernel(8);
        Code.start(x, 30, Code.store(1, 0, 1), 31, Code.HALT);
        x.put(0, 1, Code.set(5, 123));
        due("runs what it wrote", x.step(50), 3);
        due("what it wrote did", x.register(0, 5), 123);
        due("halted", x.state(0), 6);
    }

    private static void someLeaveTheRegisters() {
        for (int op : new int[] {0, 10, 11, 12, 13, 18, 23, 31}) {
            GrantKernel x = new GrantKernel(8);
            Code.start(x, 0, Code.word(op, 3, 4, 5, 2), 0, 0);
            for (int r = 0; r < 8; r++) {
                x.put(0, r, 40 + r);
            }
            x.step(1);
            for (int r = 0; r < 8; r++) {
                due("op " + op + " leaves register " + r, x.register(0, r), 40 + r);
            }
            due("op " + op + " leaves memory", x.peek(2), 0);
        }
    }
}
