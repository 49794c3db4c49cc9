/** Promises 1 to 7, 9 to 13 and 16 to 18: what the calls answer to ordinary, edge and wrong arguments. */
public final class HostCallsTest {
    private static final int MIN = Integer.MIN_VALUE;
    private static final int MAX = Integer.MAX_VALUE;
    private static final Check CHECK = new Check("HostCallsTest");

    public static void main(String[] args) {
        newObject();
        quantumIsNearest();
        memory();
        spawn();
        spawnTakesTheLeastFree();
        spawnBeginsAfresh();
        put();
        give();
        reap();
        stepCounts();
        states();
        wrongThreads();
        rows();
        prints();
        CHECK.finish();
    }

    private static void due(String what, long got, long want) {
        CHECK.due(what, got, want);
    }

    private static void due(String what, boolean got, boolean want) {
        CHECK.due(what, got, want);
    }

    private static void newObject() {
        GrantKernel x = new GrantKernel(3);
        for (int a = 0; a < 128; a++) {
            due("new: peek " + a, x.peek(a), 0);
        }
        for (int t = 0; t < 6; t++) {
            due("new: state " + t, x.state(t), 0);
            due("new: capability " + t, x.capability(t, 0, 0), -1);
        }
        for (int e = -1; e < 4; e++) {
            due("new: inRow " + e, x.inRow(e, 0), -1);
        }
        due("new: printed", x.printed(), 0);
        due("new: print", x.print(0), 0);
        due("new: step", x.step(50), 0);
    }

    private static void quantumIsNearest() {
        int[][] givenAndUsed = {{MIN, 1}, {-1, 1}, {0, 1}, {1, 1}, {2, 2}, {5, 5}, {7, 7}, {8, 8}, {9, 8}, {MAX, 8}};
        for (int[] pair : givenAndUsed) {
            GrantKernel x = new GrantKernel(pair[0]);
            x.poke(0, Code.go(0));
            x.spawn(0, 0, 1);
            x.spawn(0, 0, 1);
            int steps = 0;
            while (x.inRow(-1, 0) == 0 && steps < 20) {
                x.step(1);
                steps++;
            }
            due("quantum given as " + pair[0], steps, pair[1]);
        }
    }

    private static void memory() {
        GrantKernel x = new GrantKernel(1);
        due("poke first", x.poke(0, MIN), true);
        due("poke last", x.poke(127, MAX), true);
        due("peek first", x.peek(0), MIN);
        due("peek last", x.peek(127), MAX);
        due("peek between", x.peek(64), 0);
        for (int a : new int[] {-1, 128, MIN, MAX, -128, 256}) {
            due("poke " + a, x.poke(a, 9), false);
            due("peek " + a, x.peek(a), 0);
        }
        due("poke again", x.poke(0, 4), true);
        due("peek again", x.peek(0), 4);
    }

    private static void spawn() {
        int[][] refused = {{-1, 1}, {0, -1}, {0, 129}, {1, 128}, {128, 1}, {129, 0}, {127, 2}, {MAX, 1}, {1, MAX},
            {MAX, MAX}, {MIN, MIN}, {MIN, 0}, {0, MIN}, {-1, 129}, {129, -1}, {MIN, MAX}, {MAX, MIN}};
        GrantKernel x = new GrantKernel(1);
        for (int[] piece : refused) {
            due("spawn at " + piece[0] + ", " + piece[1], x.spawn(0, piece[0], piece[1]), -1);
        }
        due("none was made", x.state(0), 0);
        due("the whole memory", x.spawn(0, 0, 128), 0);
        due("nothing at the end", x.spawn(0, 128, 0), 1);
        due("nothing at the start", x.spawn(0, 0, 0), 2);
        due("the last word", x.spawn(0, 127, 1), 3);
        due("a counter far up", x.spawn(MAX, 3, 1), 4);
        due("a counter far down", x.spawn(MIN, 3, 1), 5);
        due("counter up", x.counter(4), MAX);
        due("counter down", x.counter(5), MIN);
        due("no seventh", x.spawn(0, 0, 1), -1);
        for (int t = 0; t < 6; t++) {
            due("ready " + t, x.state(t), 1);
            due("in the row " + t, x.inRow(-1, t), t);
        }
        due("steps", x.step(6), 6);
        int[] faults = {0, 1, 1, 0, 1, 1};
        for (int t = 0; t < 6; t++) {
            due("fault of " + t, x.fault(t), faults[t]);
        }
        due("counter up stays", x.counter(4), MAX);
        due("counter down stays", x.counter(5), MIN);
    }

    private static void spawnTakesTheLeastFree() {
        GrantKernel x = new GrantKernel(1);
        for (int t = 0; t < 6; t++) {
            x.spawn(0, 0, 1);
        }
        x.step(6);
        due("reap 4", x.reap(4), true);
        due("reap 1", x.reap(1), true);
        due("spawn gets 1", x.spawn(0, 0, 1), 1);
        due("spawn gets 4", x.spawn(0, 0, 1), 4);
        due("spawn gets none", x.spawn(0, 0, 1), -1);
        due("first in the row", x.inRow(-1, 0), 1);
        due("second in the row", x.inRow(-1, 1), 4);
    }

    private static void spawnBeginsAfresh() {
        GrantKernel x = new GrantKernel(8);
        Code.start(x, 0, Code.receive(0, 1, 2), 31);
        Code.start(x, 8, Code.callWith(0, 1, 0));
        x.give(0, 0, 1, 0, 2);
        x.give(1, 0, 1, 0, 7);
        for (int r = 0; r < 8; r++) {
            x.put(0, r, 100 + r);
        }
        x.step(4);
        due("caller", x.caller(0), 1);
        due("faulted", x.fault(0), 3);
        due("granted", x.capability(0, 2, 0), 1);
        due("reap", x.reap(0), true);
        due("register when free", x.register(0, 3), 0);
        due("caller when free", x.caller(0), -1);
        due("counter when free", x.counter(0), -1);
        due("fault when free", x.fault(0), 0);
        due("state when free", x.state(0), 0);
        due("spawn", x.spawn(1, 0, 2), 0);
        for (int r = 0; r < 8; r++) {
            due("register " + r, x.register(0, r), 0);
        }
        for (int s = 0; s < 8; s++) {
            due("slot " + s, x.capability(0, s, 0), -1);
        }
        due("caller afresh", x.caller(0), -1);
        due("fault afresh", x.fault(0), 0);
        due("counter afresh", x.counter(0), 1);
        due("the old caller waits on", x.state(1), 3);
    }

    private static void put() {
        GrantKernel x = new GrantKernel(1);
        due("put free", x.put(0, 0, 1), false);
        x.spawn(0, 0, 1);
        due("put first", x.put(0, 0, MIN), true);
        due("put last", x.put(0, 7, MAX), true);
        due("register first", x.register(0, 0), MIN);
        due("register last", x.register(0, 7), MAX);
        due("register between", x.register(0, 3), 0);
        for (int r : new int[] {-1, 8, MIN, MAX}) {
            due("put register " + r, x.put(0, r, 1), false);
            due("register " + r, x.register(0, r), 0);
        }
        for (int t : new int[] {-1, 1, 5, 6, MIN, MAX}) {
            due("put thread " + t, x.put(t, 0, 1), false);
        }
        x.step(1);
        due("put halted", x.put(0, 1, 5), true);
        due("register halted", x.register(0, 1), 5);
        x.reap(0);
        due("put reaped", x.put(0, 1, 5), false);
    }

    private static void give() {
        GrantKernel x = new GrantKernel(1);
        due("give free", x.give(0, 0, 1, 0, 1), false);
        x.spawn(0, 0, 1);
        int[][] refused = {{-1, 0, 1, 0, 1}, {6, 0, 1, 0, 1}, {1, 0, 1, 0, 1}, {MIN, 0, 1, 0, 1}, {MAX, 0, 1, 0, 1},
            {0, -1, 1, 0, 1}, {0, 8, 1, 0, 1}, {0, MIN, 1, 0, 1}, {0, MAX, 1, 0, 1},
            {0, 0, 0, 0, 1}, {0, 0, 3, 0, 1}, {0, 0, -1, 0, 1}, {0, 0, MAX, 0, 1},
            {0, 0, 1, -1, 1}, {0, 0, 1, 4, 1}, {0, 0, 2, 1, 1}, {0, 0, 2, -1, 1}, {0, 0, 2, 3, 1},
            {0, 0, 1, 0, -1}, {0, 0, 1, 0, 8}, {0, 0, 2, 0, 8}, {0, 0, 2, 0, -1}, {0, 0, 1, 0, MIN}};
        for (int[] g : refused) {
            due("give " + g[0] + " " + g[1] + " " + g[2] + " " + g[3] + " " + g[4],
                x.give(g[0], g[1], g[2], g[3], g[4]), false);
        }
        due("still empty", x.capability(0, 0, 0), -1);
        due("give endpoint", x.give(0, 0, 1, 3, 7), true);
        due("give console", x.give(0, 7, 2, 0, 0), true);
        due("give taken", x.give(0, 0, 2, 0, 1), false);
        int[] first = {1, 3, 7, -1, -1};
        int[] last = {2, 0, 0, -1, -1};
        for (int part = 0; part < 5; part++) {
            due("endpoint part " + part, x.capability(0, 0, part), first[part]);
            due("console part " + part, x.capability(0, 7, part), last[part]);
        }
        due("part below", x.capability(0, 0, -1), -1);
        due("part far", x.capability(0, 0, MAX), -1);
        due("descendants", x.descendants(0, 0), 0);
        due("descendants of none", x.descendants(0, 1), -1);
        x.step(1);
        due("give halted", x.give(0, 1, 1, 0, 0), true);
        due("rights 0", x.capability(0, 1, 2), 0);
    }

    private static void reap() {
        GrantKernel x = new GrantKernel(8);
        Code.start(x, 0, Code.HALT);
        Code.start(x, 1, 23);
        Code.start(x, 2, Code.send(0, 0));
        Code.start(x, 3, Code.receive(0, 0, 0));
        Code.start(x, 4, Code.call(0, 0));
        x.give(2, 0, 1, 0, 1);
        x.give(3, 0, 1, 1, 2);
        x.give(4, 0, 1, 2, 1);
        for (int t = 0; t < 6; t++) {
            due("reap before " + t, x.reap(t), false);
        }
        due("steps", x.step(50), 5);
        int[] states = {6, 5, 2, 4, 2, 0};
        for (int t = 0; t < 6; t++) {
            due("state " + t, x.state(t), states[t]);
            due("reap " + t, x.reap(t), t < 2);
            due("reap twice " + t, x.reap(t), false);
        }
        for (int t : new int[] {-1, 6, MIN, MAX}) {
            due("reap " + t, x.reap(t), false);
        }
        due("halted is free", x.state(0), 0);
        due("faulted is free", x.state(1), 0);
        due("sending stays", x.state(2), 2);
        due("receiving stays", x.inRow(1, 0), 3);
        due("calling stays", x.inRow(2, 0), 4);
    }

    private static void stepCounts() {
        GrantKernel x = new GrantKernel(3);
        for (int n : new int[] {0, -1, 51, MIN, MAX}) {
            due("step " + n + " of none", x.step(n), -1);
        }
        due("step of none", x.step(1), 0);
        Code.start(x, 0, Code.go(0));
        for (int n : new int[] {0, -1, 51, MIN, MAX}) {
            due("step " + n, x.step(n), -1);
        }
        due("counter", x.counter(0), 0);
        due("step 1", x.step(1), 1);
        due("step 50", x.step(50), 50);
        Code.start(x, 0, Code.HALT);
        due("until empty", x.step(50), 2);
        due("then none", x.step(50), 0);
    }

    private static void states() {
        GrantKernel x = new GrantKernel(8);
        Code.start(x, 0, Code.set(1, 5), Code.HALT);
        due("ready", x.state(0), 1);
        due("counter at first", x.counter(0), 0);
        x.step(1);
        due("counter then", x.counter(0), 1);
        due("fault while ready", x.fault(0), 0);
        x.step(1);
        due("halted", x.state(0), 6);
        due("counter of halted", x.counter(0), 2);
        due("fault of halted", x.fault(0), 0);
        due("register of halted", x.register(0, 1), 5);
    }

    private static void wrongThreads() {
        GrantKernel x = new GrantKernel(8);
        for (int i = 0; i < 6; i++) {
            x.spawn(9, 0, 128);
            x.put(i, 0, 7);
            x.give(i, 0, 1, 0, 7);
        }
        for (int t : new int[] {-1, 6, 7, -6, MIN, MAX}) {
            due("state " + t, x.state(t), -1);
            due("fault " + t, x.fault(t), 0);
            due("register " + t, x.register(t, 0), 0);
            due("counter " + t, x.counter(t), -1);
            due("caller " + t, x.caller(t), -1);
            due("capability " + t, x.capability(t, 0, 0), -1);
            due("descendants " + t, x.descendants(t, 0), -1);
        }
        for (int s : new int[] {-1, 8, -8, MIN, MAX}) {
            due("capability in slot " + s, x.capability(1, s, 0), -1);
            due("descendants in slot " + s, x.descendants(1, s), -1);
        }
        due("caller of none", x.caller(5), -1);
        due("last thread", x.register(5, 0), 7);
    }

    private static void rows() {
        GrantKernel x = new GrantKernel(1);
        x.poke(0, Code.receive(0, 0, 0));
        for (int t = 0; t < 6; t++) {
            x.spawn(0, 0, 1);
            x.give(t, 0, 1, t < 4 ? 3 : 0, 2);
        }
        due("row end", x.inRow(-1, 5), 5);
        due("row beyond", x.inRow(-1, 6), -1);
        x.step(5);
        due("row first", x.inRow(-1, 0), 5);
        due("row second", x.inRow(-1, 1), -1);
        for (int k = 0; k < 4; k++) {
            due("endpoint 3 at " + k, x.inRow(3, k), k);
        }
        due("endpoint 3 beyond", x.inRow(3, 4), -1);
        due("endpoint 0", x.inRow(0, 0), 4);
        due("endpoint 1", x.inRow(1, 0), -1);
        for (int k : new int[] {-1, 6, MIN, MAX}) {
            due("place " + k + " of the row", x.inRow(-1, k), -1);
            due("place " + k + " of endpoint 3", x.inRow(3, k), -1);
        }
        for (int e : new int[] {-2, 4, 5, MIN, MAX}) {
            due("row " + e, x.inRow(e, 0), -1);
        }
    }

    private static void prints() {
        GrantKernel x = new GrantKernel(8);
        Code.start(x, 0, Code.word(3, 1, 1, 2, 0), Code.print(0, 1), Code.go(0));
        x.give(0, 0, 2, 0, 1);
        x.put(0, 2, 3);
        for (int words = 1; words <= 40; words++) {
            x.step(3);
            if (words != 1 && words != 15 && words != 16 && words != 17 && words != 40) {
                continue;
            }
            due("printed", x.printed(), words);
            for (int k = 0; k < 16; k++) {
                due("print " + k + " of " + words, x.print(k), k < words ? 3 * (words - k) : 0);
            }
            for (int k : new int[] {-1, 16, 17, MIN, MAX}) {
                due("print " + k + " of " + words, x.print(k), 0);
            }
        }
    }
}
