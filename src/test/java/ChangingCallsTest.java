/** Promises 1 to 7, sentence by sentence: what the calls change, and where they are refused. */
public final class ChangingCallsTest {
    private static final int MIN = Integer.MIN_VALUE;
    private static final int MAX = Integer.MAX_VALUE;
    private static final Check CHECK = new Check("ChangingCallsTest");

    public static void main(String[] args) {
        scene();
        newObject();
        poke();
        spawn();
        put();
        give();
        giveArguments();
        reap();
        refusedCalls();
        CHECK.finish();
    }

    private static void due(String what, long got, long want) {
        CHECK.due(what, got, want);
    }

    private static void due(String what, boolean got, boolean want) {
        CHECK.due(what, got, want);
    }

    private static void changes(String what, Picture.Maker maker, Picture.Act act, String want) {
        CHECK.due(what, Picture.changes(maker, act), want);
    }

    /** The act changes nothing, neither now nor in what the steps after it do. */
    private static void changesNothing(String what, Picture.Maker maker, Picture.Act act) {
        changes(what, maker, act, "nothing");
        CHECK.due(what + ", later on", Picture.between(() -> {
            GrantKernel x = maker.make();
            Scene.goOn(x);
            return x;
        }, () -> {
            GrantKernel x = maker.make();
            act.on(x);
            Scene.goOn(x);
            return x;
        }), "nothing");
    }

    private static void refused(String what, Picture.Maker maker, Picture.Act act) {
        changesNothing("a refused " + what, maker, act);
    }

    /** What the other tests here rest on: the busy scene has each state, and goes on as it should. */
    private static void scene() {
        CHECK.says("STATE: 1 READY, 2 SENDING, 3 ANSWERED LATER, 4 RECEIVING, 5 FAULTED (with a fault), 6 HALTED");
        GrantKernel x = Scene.busy();
        int[] states = {3, 1, 2, 4, 5, 6};
        for (int t = 0; t < 6; t++) {
            due("state " + t, x.state(t), states[t]);
        }
        Scene.goOn(x);
        due("answered", x.register(0, 1), 104);
        due("the second that waited has sent", x.register(1, 4), 202);
        due("the third that waited has received", x.register(3, 1), 2);
    }

    private static void newObject() {
        CHECK.says("At first all are free and memory is 0.");
        GrantKernel x = new GrantKernel(3);
        for (int a = 0; a < 128; a++) {
            due("peek " + a, x.peek(a), 0);
        }
        for (int t = 0; t < 6; t++) {
            due("state " + t, x.state(t), 0);
        }
        for (int e = -1; e < 4; e++) {
            CHECK.due("row " + e, Picture.row(x, e), "[]");
        }
        due("printed", x.printed(), 0);
        due("step", x.step(50), 0);
        changes("one object and another", () -> new GrantKernel(3), y -> new GrantKernel(3).poke(0, 1), "nothing");

        CHECK.says("with a quantum from 1 to 8 (the nearest one to the number given)");
        int[][] givenAndUsed = {{MIN, 1}, {MIN + 1, 1}, {-8, 1}, {-1, 1}, {0, 1}, {1, 1}, {2, 2}, {3, 3}, {4, 4}, {5, 5},
            {6, 6}, {7, 7}, {8, 8}, {9, 8}, {10, 8}, {16, 8}, {257, 8}, {MAX, 8}};
        for (int[] pair : givenAndUsed) {
            due("quantum given as " + pair[0], quantumOf(pair[0]), pair[1]);
        }
    }

    private static int quantumOf(int given) {
        GrantKernel x = new GrantKernel(given);
        x.poke(0, Code.go(0));
        x.spawn(0, 0, 1);
        x.spawn(0, 0, 1);
        int steps = 0;
        while (x.inRow(-1, 0) == 0 && steps < 20) {
            x.step(1);
            steps++;
        }
        return steps;
    }

    private static void poke() {
        CHECK.says("Word a of memory becomes v. Answers true");
        for (int a : new int[] {0, 1, 63, 64, 126, 127}) {
            for (int v : new int[] {MIN, -1, 77, MAX}) {
                due("poke " + a, Scene.busy().poke(a, v), true);
                int old = Scene.busy().peek(a);
                changes("poke " + a, Scene::busy, x -> x.poke(a, v), "word " + a + ": " + old + " -> " + v);
            }
        }
        GrantKernel again = new GrantKernel(1);
        again.poke(127, 5);
        due("poke again", again.poke(127, 0), true);
        due("peek again", again.peek(127), 0);

        CHECK.says("false when a is not 0 .. 127");
        for (int a : new int[] {-1, 128, -128, 129, 255, 256, MIN, MIN + 1, MAX}) {
            due("poke " + a, Scene.busy().poke(a, 9), false);
            refused("poke " + a, Scene::busy, x -> x.poke(a, 9));
        }
    }

    private static void spawn() {
        spawnFresh();
        spawnRefused();

        CHECK.says("The free thread with the least number");
        GrantKernel x = new GrantKernel(1);
        for (int t = 0; t < 6; t++) {
            due("of a new object", x.spawn(0, 0, 1), t);
        }
        x.step(6);
        for (int t : new int[] {5, 0, 3}) {
            x.reap(t);
        }
        due("the first", x.spawn(0, 0, 1), 0);
        due("one in the midst", x.spawn(0, 0, 1), 3);
        due("the last", x.spawn(0, 0, 1), 5);
        CHECK.due("the row", Picture.row(x, -1), "[0 3 5]");

        CHECK.says("gets this piece of memory and this counter");
        int[][] pieces = {{0, 0, 128}, {127, 0, 128}, {0, 127, 1}, {0, 0, 1}, {0, 128, 0}, {0, 0, 0}, {MAX, 5, 1},
            {MIN, 5, 1}, {1, 64, 64}};
        for (int[] p : pieces) {
            GrantKernel y = new GrantKernel(8);
            String what = "counter " + p[0] + " base " + p[1] + " length " + p[2];
            due(what, y.spawn(p[0], p[1], p[2]), 0);
            due(what + ": counter", y.counter(0), p[0]);
            due(what + ": state", y.state(0), 1);
            boolean inside = p[0] >= 0 && p[0] < p[2];
            if (inside) {
                y.poke(p[1] + p[0], Code.set(2, 99));
            }
            due(what + ": a step", y.step(1), 1);
            due(what + ": ran its own word", y.register(0, 2), inside ? 99 : 0);
            due(what + ": fault", y.fault(0), inside ? 0 : 1);
        }
    }

    private static void spawnFresh() {
        CHECK.says("registers 0, empty slots, no caller, and is ready");
        GrantKernel x = new GrantKernel(8);
        Code.start(x, 0, Code.receive(7, 1, 2), 31);
        Code.start(x, 8, Code.callWith(0, 1, 0));
        x.give(1, 0, 1, 0, 7);
        for (int s = 7; s > 2; s--) {
            x.give(0, s, 1, 0, 7);
        }
        for (int r = 0; r < 8; r++) {
            x.put(0, r, 100 + r);
        }
        x.step(4);
        due("had a caller", x.caller(0), 1);
        due("had a fault", x.fault(0), 3);
        due("had a grant", x.capability(0, 2, 0), 1);
        x.reap(0);
        due("spawn", x.spawn(1, 0, 2), 0);
        for (int i = 0; i < 8; i++) {
            due("register " + i, x.register(0, i), 0);
            due("slot " + i, x.capability(0, i, 0), -1);
        }
        due("caller", x.caller(0), -1);
        due("fault", x.fault(0), 0);
        due("counter", x.counter(0), 1);
        due("state", x.state(0), 1);
        due("in the row", x.inRow(-1, 0), 0);
        changes("spawn among others", Scene::withFree, y -> y.spawn(7, 100, 28),
            "state 5: 0 -> 1; counter 5: -1 -> 7; row: [1] -> [1 5]");
    }

    private static void spawnRefused() {
        CHECK.says("NONE when none is free");
        due("a seventh", Scene.busy().spawn(0, 0, 1), -1);
        due("a seventh, of nothing", Scene.busy().spawn(0, 128, 0), -1);
        refused("seventh", Scene::busy, x -> x.spawn(0, 0, 1));
        due("one free", Scene.withFree().spawn(0, 0, 1), 5);

        CHECK.says("or base or length is below 0");
        refuses(new int[][] {{-1, 1}, {-1, 0}, {0, -1}, {10, -1}, {128, -1}, {129, -1}, {-1, 129}, {-1, -1}, {MIN, 0},
            {0, MIN}, {MIN, MIN}, {MIN, MAX}, {MAX, MIN}, {200, -100}, {-100, 200}, {MAX, -MAX}});

        CHECK.says("or base + length is above 128");
        refuses(new int[][] {{0, 129}, {1, 128}, {2, 127}, {64, 65}, {127, 2}, {128, 1}, {129, 0}, {0, MAX}, {MAX, 0},
            // These sums wrap to numbers that are not above 128.
            {1, MAX}, {MAX, 1}, {MAX, MAX}, {1 << 30, 1 << 30}, {128, MAX}, {MAX - 100, 102}});
        for (int[] piece : new int[][] {{0, 128}, {1, 127}, {64, 64}, {127, 1}, {128, 0}}) {
            due("spawn at " + piece[0] + ", " + piece[1], Scene.withFree().spawn(0, piece[0], piece[1]), 5);
        }
    }

    private static void refuses(int[][] pieces) {
        for (int[] piece : pieces) {
            String what = "spawn at " + piece[0] + ", " + piece[1];
            due(what, Scene.withFree().spawn(0, piece[0], piece[1]), -1);
            refused(what, Scene::withFree, x -> x.spawn(0, piece[0], piece[1]));
        }
    }

    private static void put() {
        CHECK.says("Register r of thread t becomes v. Answers true");
        for (int t = 0; t < 6; t++) {
            for (int r : new int[] {0, 1, 6, 7}) {
                int thread = t;
                int old = 100 * t + r + 1;
                if (t == 1 && r == 1) {
                    old = 2;
                } else if (t == 1 && r == 7) {
                    old = 1;
                }
                due("put " + t + "." + r, Scene.busy().put(t, r, MIN), true);
                changes("put " + t + "." + r, Scene::busy, x -> x.put(thread, r, MIN),
                    "register " + t + "." + r + ": " + old + " -> " + MIN);
            }
        }
        GrantKernel x = Scene.busy();
        due("put the most", x.put(0, 0, MAX), true);
        due("the most", x.register(0, 0), MAX);

        CHECK.says("false when there is no such thread or register");
        for (int t : new int[] {-1, 6, 7, 8, -6, MIN, MAX}) {
            due("put thread " + t, Scene.busy().put(t, 0, 9), false);
            refused("put thread " + t, Scene::busy, y -> y.put(t, 0, 9));
        }
        for (int r : new int[] {-1, 8, 9, -8, 15, MIN, MAX}) {
            due("put register " + r, Scene.busy().put(1, r, 9), false);
            refused("put register " + r, Scene::busy, y -> y.put(1, r, 9));
        }

        CHECK.says("or it is free");
        due("never spawned", new GrantKernel(1).put(0, 0, 9), false);
        for (int r = 0; r < 8; r++) {
            int register = r;
            due("reaped " + r, Scene.withFree().put(5, r, 9), false);
            refused("put of a free one", Scene::withFree, y -> y.put(5, register, 9));
        }
    }

    private static void give() {
        CHECK.says("A capability without a parent comes into slot s of thread t. Answers true");
        int[][] good = {{0, 7, 1, 0, 0}, {0, 1, 1, 3, 7}, {1, 7, 2, 0, 0}, {2, 1, 2, 0, 7}, {3, 3, 1, 2, 5}, {4, 7, 1, 3, 1},
            {5, 1, 2, 0, 4}, {5, 7, 1, 0, 2}};
        for (int[] g : good) {
            String what = name(g);
            due(what, Scene.busy().give(g[0], g[1], g[2], g[3], g[4]), true);
            String place = g[0] + "." + g[1];
            changes(what, Scene::busy, x -> x.give(g[0], g[1], g[2], g[3], g[4]),
                "slot " + place + ": empty -> (" + g[2] + " " + g[3] + " " + g[4] + " -1); below " + place + ": -1 -> 0");
        }
        GrantKernel first = Scene.withFree();
        first.spawn(0, 0, 0);
        due("the first slot", first.give(5, 0, 1, 3, 7), true);
        CHECK.due("in the first slot", Picture.capability(first, 5, 0), "(1 3 7 -1)");

        CHECK.says("false when there is no such thread, it is free");
        refusesGive(Scene::busy, new int[][] {{-1, 1, 1, 0, 1}, {6, 1, 1, 0, 1}, {-6, 1, 1, 0, 1}, {MIN, 1, 1, 0, 1},
            {MAX, 1, 1, 0, 1}});
        refusesGive(Scene::withFree, new int[][] {{5, 0, 1, 0, 1}, {5, 7, 2, 0, 1}});
        due("never spawned", new GrantKernel(1).give(0, 0, 1, 0, 1), false);

        CHECK.says("s is not 0 .. 7 or not empty");
        refusesGive(Scene::busy, new int[][] {{1, -1, 1, 0, 1}, {1, 8, 1, 0, 1}, {0, 8, 1, 0, 1}, {1, -8, 1, 0, 1},
            {5, 8, 1, 0, 1}, {1, MIN, 1, 0, 1}, {1, MAX, 1, 0, 1}});
        refusesGive(Scene::busy, new int[][] {{0, 0, 1, 0, 1}, {1, 2, 2, 0, 1}, {4, 1, 2, 0, 1}, {5, 0, 2, 0, 7}});
        due("emptied by reap, spawned again", first.give(5, 1, 2, 0, 1), true);
    }

    private static void giveArguments() {
        CHECK.says("kind is not 1 or 2");
        refusesGive(Scene::busy, new int[][] {{1, 1, 0, 0, 1}, {1, 1, 3, 0, 1}, {1, 1, -1, 0, 1}, {1, 1, MIN, 0, 1},
            {1, 1, MAX, 0, 1}, {1, 1, 5, 0, 1}, {1, 1, -2, 0, 1}});

        CHECK.says("object is not 0 .. 3 (for the console not 0)");
        refusesGive(Scene::busy, new int[][] {{1, 1, 1, -1, 1}, {1, 1, 1, 4, 1}, {1, 1, 1, 5, 1}, {1, 1, 1, MIN, 1},
            {1, 1, 1, MAX, 1}, {1, 1, 2, 1, 1}, {1, 1, 2, 2, 1}, {1, 1, 2, 3, 1}, {1, 1, 2, 4, 1}, {1, 1, 2, -1, 1},
            {1, 1, 2, MIN, 1}, {1, 1, 2, MAX, 1}});
        for (int object = 0; object < 4; object++) {
            due("endpoint " + object, Scene.busy().give(1, 1, 1, object, 1), true);
            due("console " + object, Scene.busy().give(1, 1, 2, object, 1), object == 0);
        }

        CHECK.says("or rights is not 0 .. 7");
        refusesGive(Scene::busy, new int[][] {{1, 1, 1, 0, -1}, {1, 1, 1, 0, 8}, {1, 1, 1, 0, 15}, {1, 1, 1, 0, MIN},
            {1, 1, 1, 0, MAX}, {1, 1, 2, 0, -1}, {1, 1, 2, 0, 8}});
        for (int rights = 0; rights < 8; rights++) {
            for (int kind = 1; kind < 3; kind++) {
                GrantKernel x = Scene.busy();
                due("rights " + rights, x.give(1, 1, kind, 0, rights), true);
                due("rights " + rights + " there", x.capability(1, 1, 2), rights);
            }
        }
    }

    private static String name(int[] g) {
        return "give " + g[0] + " " + g[1] + " " + g[2] + " " + g[3] + " " + g[4];
    }

    private static void refusesGive(Picture.Maker maker, int[][] all) {
        for (int[] g : all) {
            due(name(g), maker.make().give(g[0], g[1], g[2], g[3], g[4]), false);
            refused(name(g), maker, x -> x.give(g[0], g[1], g[2], g[3], g[4]));
        }
    }

    private static void reap() {
        CHECK.says("A halted or faulted thread is free again");
        due("reap faulted", Scene.busy().reap(4), true);
        due("reap halted", Scene.busy().reap(5), true);
        CHECK.due("halted", Picture.changes(Scene::busy, x -> x.reap(5)), "state 5: 6 -> 0; counter 5: 2 -> -1"
            + registersGone(5) + "; slot 5.0: (2 0 7 -1) -> empty; below 5.0: 0 -> -1");
        CHECK.due("faulted", Picture.changes(Scene::busy, x -> x.reap(4)),
            "state 4: 5 -> 0; fault 4: 3 -> 0; counter 4: 2 -> -1"
            + registersGone(4) + "; slot 4.0: (2 0 7 -1) -> empty; below 4.0: 1 -> -1"
            + "; slot 4.1: (2 0 1 32) -> empty; below 4.1: 0 -> -1");
        for (int fault = 1; fault <= 5; fault++) {
            GrantKernel x = faulted(fault);
            due("the fault", x.fault(0), fault);
            due("reap with fault " + fault, x.reap(0), true);
            due("free", x.state(0), 0);
        }

        CHECK.says("its capabilities are removed, by the numbers of their slots");
        reapRemoves();

        CHECK.says("false when t is none such");
        for (int t = 0; t < 4; t++) {
            int thread = t;
            due("reap " + t, Scene.busy().reap(t), false);
            refused("reap " + t, Scene::busy, x -> x.reap(thread));
        }
        due("reap free", Scene.withFree().reap(5), false);
        refused("reap of a free one", Scene::withFree, x -> x.reap(5));
        due("never spawned", new GrantKernel(1).reap(0), false);
        for (int t : new int[] {-1, 6, 7, -5, MIN, MAX}) {
            due("reap " + t, Scene.busy().reap(t), false);
            refused("reap " + t, Scene::busy, x -> x.reap(t));
        }
    }

    private static void refusedCalls() {
        CHECK.says("A call that is refused (false, NONE) changes nothing");
        changesNothing("all kinds of refused calls, one after the other", Scene::busy, x -> {
            for (int wrong : new int[] {-1, 128, MIN, MAX}) {
                x.poke(wrong, 7);
                x.spawn(0, wrong, wrong);
                x.put(wrong, 0, 7);
                x.put(0, wrong, 7);
                x.give(wrong, 1, 1, 1, 1);
                x.give(1, wrong, 1, 1, 1);
                x.give(1, 1, wrong, 1, 1);
                x.give(1, 1, 1, wrong, 1);
                x.give(1, 1, 1, 1, wrong);
                x.reap(wrong);
                x.step(wrong);
            }
            x.spawn(0, 0, 1);
            x.give(1, 0, 2, 0, 1);
            x.reap(1);
            x.step(0);
            x.step(51);
        });
    }

    private static String registersGone(int t) {
        StringBuilder text = new StringBuilder();
        for (int r = 0; r < 8; r++) {
            text.append("; register ").append(t).append('.').append(r).append(": ").append(100 * t + r + 1).append(" -> 0");
        }
        return text.toString();
    }

    private static GrantKernel faulted(int fault) {
        int[] words = {0, Code.load(0, 0, 2), 23, Code.remove(1), Code.mint(0, 0, 7)};
        GrantKernel x = new GrantKernel(8);
        Code.start(x, 0, words[fault - 1]);
        x.give(0, 0, 1, 0, 7);
        if (fault == 1) {
            x.step(1);
            x.reap(0);
            x.spawn(1, 0, 1);
        }
        x.step(1);
        return x;
    }

    /**
     * Thread 1 holds a chain of four between a capability of thread 0 and one of thread 2, in slots
     * that go up and down; all four go, whichever comes first.
     */
    private static void reapRemoves() {
        for (int[] c : new int[][] {{0, 1, 3, 4}, {7, 5, 4, 3}, {3, 7, 1, 5}, {0, 7, 4, 1}}) {
            GrantKernel x = new GrantKernel(8);
            Code.start(x, 0, Code.sendWith(0, 1, 7), Code.HALT);
            Code.start(x, 10, Code.receive(2, 1, c[0]), Code.mint(c[0], c[1], 7), Code.mint(c[1], c[2], 7),
                Code.mint(c[2], c[3], 7), Code.sendWith(6, 1, c[3]), Code.HALT);
            Code.start(x, 20, Code.receive(0, 1, 1), Code.HALT);
            x.give(0, 0, 1, 0, 7);
            x.give(0, 7, 2, 0, 3);
            x.give(1, 2, 1, 0, 2);
            x.give(1, 6, 1, 1, 5);
            x.give(2, 0, 1, 1, 2);
            x.step(50);
            String what = "chain from slot " + c[0];
            due(what + ": five below", x.descendants(0, 7), 5);
            due(what + ": parent of the last", x.capability(2, 1, 3), 8 + c[3]);
            due(what + ": reap", x.reap(1), true);
            due(what + ": one below", x.descendants(0, 7), 1);
            due(what + ": its parent now", x.capability(2, 1, 3), 7);
            for (int s = 0; s < 8; s++) {
                due(what + ": slot " + s, x.capability(1, s, 0), -1);
            }
            due(what + ": reap the first", x.reap(0), true);
            due(what + ": no parent left", x.capability(2, 1, 3), -1);
            due(what + ": it stays", x.capability(2, 1, 2), 3);
        }
    }
}
