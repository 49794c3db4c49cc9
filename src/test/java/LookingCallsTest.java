/** Promises 3 and 9 to 18, sentence by sentence: what there is, and the answer when there is none. */
public final class LookingCallsTest {
    private static final int MIN = Integer.MIN_VALUE;
    private static final int MAX = Integer.MAX_VALUE;
    private static final int[] NO_THREAD = {-1, 6, 7, 8, -6, MIN, MIN + 1, MAX};
    private static final int[] NO_REGISTER_OR_SLOT = {-1, 8, 9, -8, 16, MIN, MIN + 1, MAX};
    private static final Check CHECK = new Check("LookingCallsTest");

    public static void main(String[] args) {
        peek();
        state();
        fault();
        register();
        counter();
        caller();
        capability();
        noCapability();
        descendants();
        inRow();
        printed();
        print();
        CHECK.finish();
    }

    private static void due(String what, long got, long want) {
        CHECK.due(what, got, want);
    }

    private static void due(String what, boolean got, boolean want) {
        CHECK.due(what, got, want);
    }

    private static void looksOnly(String what, Picture.Act act) {
        CHECK.due(what + " only looks", Picture.changes(Scene::busy, act), "nothing");
    }

    private static void peek() {
        CHECK.says("Word a of memory");
        GrantKernel x = new GrantKernel(1);
        for (int a = 0; a < 128; a++) {
            x.poke(a, 1000 + a);
        }
        for (int a = 0; a < 128; a++) {
            due("peek " + a, x.peek(a), 1000 + a);
        }
        looksOnly("peek", y -> y.peek(127));

        CHECK.says("0 when there is none");
        for (int a : new int[] {-1, 128, -128, 129, 255, 256, MIN, MIN + 1, MAX}) {
            due("peek " + a, x.peek(a), 0);
        }
    }

    private static void state() {
        CHECK.says("The state of thread t");
        int[] states = {3, 1, 2, 4, 5, 6};
        for (int t = 0; t < 6; t++) {
            due("state " + t, Scene.busy().state(t), states[t]);
        }
        due("a free one", Scene.withFree().state(5), 0);
        looksOnly("state", x -> x.state(1));

        CHECK.says("NONE when there is no such thread");
        for (int t : NO_THREAD) {
            due("state " + t, Scene.busy().state(t), -1);
        }
    }

    private static void fault() {
        CHECK.says("The fault of thread t");
        int[][] faultAndWord = {{1, Code.go(9)}, {2, Code.load(1, 0, 1)}, {3, 23}, {4, Code.send(0, 0)},
            {5, Code.mint(7, 7, 0)}};
        for (int[] pair : faultAndWord) {
            for (int t = 0; t < 6; t++) {
                due("fault " + pair[0] + " of " + t, withFault(t, pair[1]).fault(t), pair[0]);
            }
        }

        CHECK.says("0 when there is no such thread, or it is not faulted");
        GrantKernel x = Scene.busy();
        for (int t = 0; t < 6; t++) {
            due("fault " + t, x.fault(t), t == 4 ? 3 : 0);
        }
        for (int t : NO_THREAD) {
            due("fault " + t, x.fault(t), 0);
        }
        x.reap(4);
        due("reaped", x.fault(4), 0);
        due("spawned again", x.spawn(0, 0, 1), 4);
        due("ready again", x.fault(4), 0);
        looksOnly("fault", y -> y.fault(4));
    }

    /** Thread t runs the word until it is faulted, with a capability in slot 7; the others have halted. */
    private static GrantKernel withFault(int t, int word) {
        GrantKernel x = new GrantKernel(8);
        for (int i = 0; i < 6; i++) {
            Code.start(x, i, i == t ? word : Code.HALT);
        }
        x.give(t, 7, 1, 0, 7);
        x.step(50);
        return x;
    }

    private static void register() {
        CHECK.says("Register r of thread t");
        GrantKernel x = new GrantKernel(1);
        for (int t = 0; t < 6; t++) {
            x.spawn(0, 0, 1);
            for (int r = 0; r < 8; r++) {
                x.put(t, r, 10 * t + r - 30);
            }
        }
        for (int t = 0; t < 6; t++) {
            for (int r = 0; r < 8; r++) {
                due("register " + t + "." + r, x.register(t, r), 10 * t + r - 30);
            }
        }
        looksOnly("register", y -> y.register(1, 7));

        CHECK.says("0 when there is no such thread or register, or it is free");
        for (int t : NO_THREAD) {
            due("register of thread " + t, Scene.busy().register(t, 0), 0);
            due("last register of thread " + t, Scene.busy().register(t, 7), 0);
        }
        for (int r : NO_REGISTER_OR_SLOT) {
            due("register " + r, Scene.busy().register(0, r), 0);
            due("register " + r + " of the last", Scene.busy().register(5, r), 0);
        }
        for (int r = 0; r < 8; r++) {
            due("free register " + r, Scene.withFree().register(5, r), 0);
        }
    }

    private static void counter() {
        CHECK.says("The counter of thread t");
        int[] counters = {1, 1, 1, 1, 2, 2};
        for (int t = 0; t < 6; t++) {
            due("counter " + t, Scene.busy().counter(t), counters[t]);
        }
        for (int c : new int[] {MIN, -1, 0, 128, MAX}) {
            GrantKernel x = new GrantKernel(1);
            x.spawn(c, 0, 128);
            due("spawned with " + c, x.counter(0), c);
        }
        looksOnly("counter", x -> x.counter(1));

        CHECK.says("NONE when there is no such thread, or it is free");
        for (int t : NO_THREAD) {
            due("counter " + t, Scene.busy().counter(t), -1);
        }
        due("reaped", Scene.withFree().counter(5), -1);
        due("never spawned", new GrantKernel(1).counter(0), -1);
    }

    private static void caller() {
        CHECK.says("The caller of thread t");
        for (int[] pair : new int[][] {{0, 5}, {5, 0}, {2, 3}, {3, 2}, {1, 0}, {4, 5}}) {
            GrantKernel x = called(pair[0], pair[1]);
            for (int t = 0; t < 6; t++) {
                due(pair[0] + " calls " + pair[1] + ": caller " + t, x.caller(t), t == pair[1] ? pair[0] : -1);
            }
        }
        looksOnly("caller", x -> x.caller(1));

        CHECK.says("NONE when it has none, there is no such thread, or it is free");
        int[] callers = {-1, 0, -1, -1, -1, -1};
        for (int t = 0; t < 6; t++) {
            due("caller " + t, Scene.busy().caller(t), callers[t]);
        }
        for (int t : NO_THREAD) {
            due("caller " + t, Scene.busy().caller(t), -1);
        }
        for (int last : new int[] {31, Code.HALT}) {
            GrantKernel x = called(0, 5);
            x.poke(11, last);
            x.step(50);
            due("faulted or halted, it has it still", x.caller(5), 0);
            x.reap(5);
            due("free", x.caller(5), -1);
        }
        due("never spawned", new GrantKernel(1).caller(0), -1);
    }

    /** The one calls the other; the rest has halted. */
    private static GrantKernel called(int caller, int other) {
        GrantKernel x = new GrantKernel(8);
        x.poke(20, Code.HALT);
        int[] call = {Code.call(0, 1), Code.HALT};
        int[] receive = {Code.receive(0, 1, 1), Code.go(1)};
        for (int t = 0; t < 6; t++) {
            if (t == caller) {
                Code.start(x, 0, call);
                x.give(t, 0, 1, 0, 1);
            } else if (t == other) {
                Code.start(x, 10, receive);
                x.give(t, 0, 1, 0, 2);
            } else {
                x.spawn(0, 20, 1);
            }
        }
        x.step(20);
        return x;
    }

    /**
     * Slot 0 of thread 0 above slot 7 of thread 5, and that above slot 6 of thread 5: parents at the
     * first and at the last place.
     */
    private static GrantKernel firstAndLast() {
        GrantKernel x = new GrantKernel(8);
        Code.start(x, 0, Code.sendWith(0, 1, 0), Code.HALT);
        for (int t = 1; t < 5; t++) {
            Code.start(x, 10, Code.HALT);
        }
        Code.start(x, 20, Code.receive(0, 1, 7), Code.mint(7, 6, 3), Code.HALT);
        x.give(0, 0, 1, 3, 7);
        x.give(5, 0, 1, 3, 2);
        x.step(50);
        return x;
    }

    private static void capability() {
        CHECK.says("its kind (part 0), object (1), rights (2), or 8 * u + v for the thread u and slot v where its "
            + "parent is (3)");
        GrantKernel x = firstAndLast();
        int[][] want = {{0, 0, 1, 3, 7, -1}, {5, 7, 1, 3, 7, 0}, {5, 6, 1, 3, 3, 47}, {5, 0, 1, 3, 2, -1}};
        for (int[] w : want) {
            for (int part = 0; part < 4; part++) {
                due("capability " + w[0] + "." + w[1] + " part " + part, x.capability(w[0], w[1], part), w[2 + part]);
            }
        }
        GrantKernel y = new GrantKernel(8);
        y.spawn(0, 0, 0);
        for (int s = 0; s < 8; s++) {
            y.give(0, s, s < 4 ? 1 : 2, s < 4 ? s : 0, s);
        }
        for (int s = 0; s < 8; s++) {
            due("kind in " + s, y.capability(0, s, 0), s < 4 ? 1 : 2);
            due("object in " + s, y.capability(0, s, 1), s < 4 ? s : 0);
            due("rights in " + s, y.capability(0, s, 2), s);
        }
        looksOnly("capability", z -> z.capability(1, 2, 3));
    }

    private static void noCapability() {
        CHECK.says("NONE when there is none, no such part, or no parent");
        for (int part = 0; part < 4; part++) {
            due("an empty slot, part " + part, Scene.busy().capability(1, 7, part), -1);
            due("a free thread, part " + part, Scene.withFree().capability(5, 0, part), -1);
            for (int t : NO_THREAD) {
                due("thread " + t + " part " + part, Scene.busy().capability(t, 0, part), -1);
            }
            for (int s : NO_REGISTER_OR_SLOT) {
                due("slot " + s + " part " + part, Scene.busy().capability(0, s, part), -1);
                due("slot " + s + " of the last, part " + part, Scene.busy().capability(5, s, part), -1);
            }
        }
        // Slot 8 of one thread is not slot 0 of the next, nor is slot -1 slot 7 of the one before.
        due("beyond the slots", Scene.busy().capability(0, 8, 0), -1);
        due("before the slots", firstAndLast().capability(6, -1, 0), -1);
        for (int part : new int[] {-1, 4, 5, -4, MIN, MAX}) {
            due("part " + part, Scene.busy().capability(1, 2, part), -1);
            due("part " + part + " of none", Scene.busy().capability(1, 7, part), -1);
        }
        due("no parent", Scene.busy().capability(0, 0, 3), -1);
        due("a parent", Scene.busy().capability(1, 2, 3), 0);
    }

    private static void descendants() {
        CHECK.says("How many descendants the capability in slot s of thread t has");
        GrantKernel x = Scene.full(true);
        GrantKernel y = Scene.full(false);
        for (int t = 0; t < 6; t++) {
            for (int s = 0; s < 8; s++) {
                due("in a chain of all, " + t + "." + s, x.descendants(t, s), 47 - 8 * t - s);
                due("under the first of each, " + t + "." + s, y.descendants(t, s), s == 0 ? 47 - 8 * t : 0);
            }
        }
        looksOnly("descendants", z -> z.descendants(4, 0));

        CHECK.says("NONE when there is none");
        due("an empty slot", Scene.busy().descendants(1, 7), -1);
        due("a free thread", Scene.withFree().descendants(5, 0), -1);
        for (int t : NO_THREAD) {
            due("thread " + t, Scene.busy().descendants(t, 0), -1);
            due("last slot of thread " + t, Scene.full(true).descendants(t, 7), -1);
        }
        for (int s : NO_REGISTER_OR_SLOT) {
            due("slot " + s, Scene.full(true).descendants(0, s), -1);
            due("slot " + s + " of the last", Scene.full(true).descendants(5, s), -1);
        }
    }

    private static void inRow() {
        CHECK.says("The thread at place k (0 the first) of the row, or, for e from 0 to 3, of the row of endpoint "
            + "e; e is -1 for the row");
        for (int e = 0; e < 4; e++) {
            GrantKernel x = waiting(e);
            CHECK.due("a full row", Picture.row(x, -1), "[0 1 2 3 4 5]");
            due("steps", x.step(50), 6);
            CHECK.due("an empty row", Picture.row(x, -1), "[]");
            for (int other = 0; other < 4; other++) {
                CHECK.due("row of " + other, Picture.row(x, other), other == e ? "[0 1 2 3 4 5]" : "[]");
            }
        }
        looksOnly("inRow", x -> x.inRow(1, 0));

        CHECK.says("NONE when there is none");
        for (int k : new int[] {-1, 6, 7, -6, MIN, MAX}) {
            GrantKernel x = waiting(3);
            due("place " + k + " of the row", x.inRow(-1, k), -1);
            x.step(6);
            due("place " + k + " of an empty row", x.inRow(-1, k), -1);
            due("place " + k + " of an endpoint", x.inRow(3, k), -1);
            due("place " + k + " of an empty endpoint", x.inRow(2, k), -1);
        }
        for (int e : new int[] {-2, 4, 5, -4, MIN, MAX}) {
            GrantKernel x = waiting(3);
            due("row " + e, x.inRow(e, 0), -1);
            x.step(6);
            due("row " + e + " when all wait", x.inRow(e, 0), -1);
        }
        GrantKernel two = waiting(1);
        two.step(4);
        CHECK.due("what is left of the row", Picture.row(two, -1), "[4 5]");
        due("one place beyond", two.inRow(-1, 2), -1);
        due("one place beyond at the endpoint", two.inRow(1, 4), -1);
    }

    /** Six threads that are about to receive at endpoint e. */
    private static GrantKernel waiting(int e) {
        GrantKernel x = new GrantKernel(8);
        x.poke(0, Code.receive(0, 0, 0));
        for (int t = 0; t < 6; t++) {
            x.spawn(0, 0, 1);
            x.give(t, 0, 1, e, 2);
        }
        return x;
    }

    /** A thread that prints 3, 6, 9 and so on, one with every three steps. */
    private static GrantKernel printing() {
        GrantKernel x = new GrantKernel(8);
        Code.start(x, 0, Code.word(3, 1, 1, 2, 0), Code.print(0, 1), Code.go(0));
        x.give(0, 0, 2, 0, 1);
        x.put(0, 2, 3);
        return x;
    }

    private static void printed() {
        CHECK.says("How many words were printed");
        GrantKernel x = printing();
        due("none", x.printed(), 0);
        for (int words = 1; words <= 40; words++) {
            x.step(3);
            due("words", x.printed(), words);
        }
        GrantKernel many = new GrantKernel(8);
        Code.start(many, 0, Code.print(0, 1), Code.print(0, 1), Code.print(0, 1), Code.print(0, 1), Code.go(0));
        many.give(0, 0, 2, 0, 1);
        for (int i = 0; i < 500; i++) {
            many.step(50);
        }
        due("as many as 500 calls of step print", many.printed(), 20000);
        GrantKernel refused = new GrantKernel(8);
        Code.start(refused, 0, Code.print(0, 1), Code.print(1, 1));
        refused.give(0, 0, 2, 0, 1);
        refused.step(50);
        due("not the one with a fault", refused.printed(), 1);
        refused.reap(0);
        due("reap takes none back", refused.printed(), 1);
        looksOnly("printed", GrantKernel::printed);
    }

    private static void print() {
        CHECK.says("The k-th word printed, counted back from the latest (0)");
        for (int words : new int[] {1, 2, 15, 16, 17, 18, 31, 32, 33, 100}) {
            GrantKernel x = printing();
            for (int i = 0; i < words; i++) {
                x.step(3);
            }
            for (int k = 0; k < 16 && k < words; k++) {
                due("print " + k + " of " + words, x.print(k), 3 * (words - k));
            }
        }
        GrantKernel two = new GrantKernel(1);
        for (int t = 0; t < 2; t++) {
            Code.start(two, 0, Code.print(0, 1), Code.HALT);
            two.give(t, 0, 2, 0, 1);
            two.put(t, 1, t == 0 ? MIN : MAX);
        }
        two.step(50);
        due("the latest, of another thread", two.print(0), MAX);
        due("the one before", two.print(1), MIN);
        looksOnly("print", x -> x.print(0));

        CHECK.says("0 when k is not 0 .. 15 or fewer were printed");
        due("none was printed", new GrantKernel(1).print(0), 0);
        for (int words : new int[] {0, 1, 5, 15, 16, 17, 40}) {
            GrantKernel x = printing();
            for (int i = 0; i < words; i++) {
                x.step(3);
            }
            for (int k : new int[] {-1, 16, 17, 31, 32, -16, MIN, MAX}) {
                due("print " + k + " of " + words, x.print(k), 0);
            }
            for (int k = words; k < 16; k++) {
                due("print " + k + " of " + words, x.print(k), 0);
            }
        }
    }
}
