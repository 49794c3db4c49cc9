/**
 * Runs of 512 calls, made by a fixed sequence of numbers, on the class and on the plain model of the
 * document side by side: every answer of one must be that of the other. All promises come up. Every
 * third run is shorter and ends with a look at whether the document's terms hold.
 */
public final class RandomRunsTest {
    private static final int RUNS = 12000;
    private static final int CALLS = 512;
    private static final int MOST_TOLD = 20;
    private static final int[] ODD_NUMBERS = {-1, -2, 8, 6, 127, 128, 129, Integer.MIN_VALUE, Integer.MAX_VALUE};
    // A thread that faults or waits at once shows little, so each kind of run has ops that carry it on.
    private static final int[][] OPS = {
        {0, 1, 2, 3, 4, 5, 6, 7, 8, 9, 10, 11, 12, 13, 14, 14, 14, 15, 15, 15, 16, 16, 16, 17, 17, 17, 17, 17, 18, 18,
            19, 19, 19, 20, 21, 22, 23},
        {15, 17, 19, 19, 19, 19, 19, 19, 19, 19, 19, 19, 20, 21, 22, 22, 2, 10, 13, 13},
        {15, 15, 16, 16, 17, 17, 17, 17, 17, 17, 18, 18, 18, 19, 19, 19, 20, 22, 10, 13},
        {1, 2, 3, 4, 5, 6, 7, 8, 9, 10, 11, 12, 13, 14, 14, 14, 1, 1},
    };
    private static final Check CHECK = new Check("RandomRunsTest");
    private static final int[] SEEN_STATES = new int[7];
    private static final int[] SEEN_FAULTS = new int[6];
    private static final int[] SEEN_ANSWERS = new int[5];

    private final GrantKernel kernel;
    private final PlainKernel plain;
    private final int run;
    private long seed;
    // A thread spawned of late, which gets its first capabilities before anything runs.
    private int newest = -1;
    private int nextSlot;

    private RandomRunsTest(int run) {
        this.run = run;
        seed = run * 7919L + 17;
        int quantum = below(12) - 1;
        kernel = new GrantKernel(quantum);
        plain = new PlainKernel(quantum);
    }

    public static void main(String[] args) {
        for (int run = 0; run < RUNS && CHECK.wrongSoFar() < MOST_TOLD; run++) {
            new RandomRunsTest(run).calls();
        }
        // A run that never gets somewhere would prove nothing about it.
        for (int state = 0; state < 7; state++) {
            CHECK.due("state " + state + " came up", SEEN_STATES[state] > 100, true);
        }
        for (int fault = 1; fault < 6; fault++) {
            CHECK.due("fault " + fault + " came up", SEEN_FAULTS[fault] > 100, true);
        }
        CHECK.due("callers came up", SEEN_ANSWERS[0] > 100, true);
        CHECK.due("parents came up", SEEN_ANSWERS[1] > 100, true);
        CHECK.due("many descendants came up", SEEN_ANSWERS[2] > 100, true);
        CHECK.due("long rows at endpoints came up", SEEN_ANSWERS[3] > 100, true);
        CHECK.due("old prints came up", SEEN_ANSWERS[4] > 20, true);
        CHECK.finish();
    }

    private int below(int bound) {
        seed = seed * 6364136223846793005L + 1442695040888963407L;
        return (int) ((seed >>> 33) % bound);
    }

    /** Mostly 0 to bound - 1, at times a number that is at or past an edge. */
    private int near(int bound) {
        return below(40) == 0 ? ODD_NUMBERS[below(ODD_NUMBERS.length)] : below(bound);
    }

    private int value() {
        int shape = below(8);
        if (shape == 0) {
            return ODD_NUMBERS[below(ODD_NUMBERS.length)];
        }
        return shape == 1 ? instruction() : below(20) - 6;
    }

    private int instruction() {
        int[] ops = OPS[run % OPS.length];
        int op = ops[below(ops.length)];
        int n = op == 10 || op == 11 || op == 12 ? below(14) - 1 : below(9) - 2;
        return Code.word(op, fieldA(op), fieldB(op), below(8), op >= 15 && op <= 16 && below(2) == 0 ? 1 : n);
    }

    // Slots 0 and 1 mostly have endpoints, 2 has the console, and the rest is there to be filled.
    private int fieldA(int op) {
        if (below(12) == 0) {
            return below(8);
        }
        if (op == 14) {
            return 2;
        }
        if (op == 19) {
            return below(4) == 0 ? below(8) : below(3);
        }
        return op >= 15 && op <= 17 ? below(2) : below(4);
    }

    private int fieldB(int op) {
        return op == 19 && below(8) != 0 ? 3 + below(5) : below(8);
    }

    private void calls() {
        boolean looksAtTerms = run % 3 == 0;
        int calls = looksAtTerms ? CALLS - Terms.CALLS : CALLS;
        for (int call = 0; call < calls && CHECK.wrongSoFar() < MOST_TOLD; call++) {
            if (call < 56) {
                prepare(call);
            } else if (newest != -1 && nextSlot < 3) {
                equip(newest, nextSlot);
                nextSlot++;
            } else if (below(100) < 45) {
                change();
            } else {
                look();
            }
        }
        if (looksAtTerms) {
            Terms.hold(CHECK, "run " + run + ", the terms", kernel);
        }
    }

    private void due(String what, long got, long want) {
        CHECK.due("run " + run + ": " + what, got, want);
    }

    private void due(String what, boolean got, boolean want) {
        due(what, got ? 1 : 0, want ? 1 : 0);
    }

    private void prepare(int call) {
        if (call < 36) {
            poke(call, instruction());
        } else if (call < 41) {
            spawn(0, 6 * (call - 36), 12);
        } else {
            equip((call - 41) / 3, (call - 41) % 3);
        }
    }

    private void equip(int t, int s) {
        give(t, s, s == 2 ? 2 : 1, s == 2 ? 0 : below(2), below(4) == 0 ? below(8) : 7);
    }

    private void change() {
        int kind = below(40);
        if (kind < 3) {
            poke(below(5) == 0 ? near(128) : below(48), below(3) == 0 ? value() : instruction());
        } else if (kind < 8) {
            spawn(below(6) == 0 ? near(14) : 0, below(10) == 0 ? near(130) : below(36), below(6) == 0 ? near(40) : 12);
        } else if (kind < 9) {
            int t = near(6);
            int r = near(8);
            int v = value();
            due("put " + t + " " + r + " " + v, kernel.put(t, r, v), plain.put(t, r, v));
        } else if (kind < 11) {
            give(near(6), near(8), near(3), near(4), near(8));
        } else if (kind < 15) {
            equip(below(6), below(3));
        } else if (kind < 20) {
            int t = near(6);
            due("reap " + t, kernel.reap(t), plain.reap(t));
        } else {
            int n = below(12) == 0 ? near(53) : 1 + below(4);
            due("step " + n, kernel.step(n), plain.step(n));
        }
    }

    private void poke(int a, int v) {
        due("poke " + a + " " + v, kernel.poke(a, v), plain.poke(a, v));
    }

    private void spawn(int counter, int base, int length) {
        newest = plain.spawn(counter, base, length);
        nextSlot = 0;
        due("spawn " + counter + " " + base + " " + length, kernel.spawn(counter, base, length), newest);
    }

    private void give(int t, int s, int kind, int object, int rights) {
        due("give " + t + " " + s + " " + kind + " " + object + " " + rights, kernel.give(t, s, kind, object, rights),
            plain.give(t, s, kind, object, rights));
    }

    private void look() {
        int t = near(6);
        int s = near(8);
        int k = near(5);
        switch (below(12)) {
            case 0 -> lookAtState(t);
            case 1 -> lookAtFault(t);
            case 2 -> due("register " + t + " " + s, kernel.register(t, s), plain.register(t, s));
            case 3 -> due("counter " + t, kernel.counter(t), plain.counter(t));
            case 4 -> {
                count(0, plain.caller(t) != -1);
                due("caller " + t, kernel.caller(t), plain.caller(t));
            }
            case 5, 6 -> {
                count(1, k == 3 && plain.capability(t, s, 3) != -1);
                due("capability " + t + " " + s + " " + k, kernel.capability(t, s, k), plain.capability(t, s, k));
            }
            case 7 -> {
                int top = below(2) == 0 ? below(3) : s;
                count(2, plain.descendants(t, top) > 2);
                due("descendants " + t + " " + top, kernel.descendants(t, top), plain.descendants(t, top));
            }
            case 8 -> {
                int e = near(5) - 1;
                count(3, e >= 0 && plain.inRow(e, k) != -1 && k > 0);
                due("inRow " + e + " " + k, kernel.inRow(e, k), plain.inRow(e, k));
            }
            case 9 -> {
                int a = near(128);
                due("peek " + a, kernel.peek(a), plain.peek(a));
            }
            case 10 -> {
                int back = near(18);
                count(4, plain.printed() > 16 && back == 15);
                due("print " + back, kernel.print(back), plain.print(back));
            }
            default -> due("printed", kernel.printed(), plain.printed());
        }
    }

    private static void count(int what, boolean seen) {
        SEEN_ANSWERS[what] += seen ? 1 : 0;
    }

    private void lookAtState(int t) {
        int state = plain.state(t);
        if (state >= 0) {
            SEEN_STATES[state]++;
        }
        due("state " + t, kernel.state(t), state);
    }

    private void lookAtFault(int t) {
        int fault = plain.fault(t);
        SEEN_FAULTS[fault]++;
        due("fault " + t, kernel.fault(t), fault);
    }
}
