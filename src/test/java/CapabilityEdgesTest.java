/** Promise 8 with the terms, sentence by sentence: MINT, removal, REVOKE, parents and descendants, faults 4 and 5. */
public final class CapabilityEdgesTest {
    private static final int LEAST_N = -(1 << 17);
    private static final int MOST_N = (1 << 17) - 1;
    private static final Check CHECK = new Check("CapabilityEdgesTest");

    public static void main(String[] args) {
        mint();
        mintIntoATakenSlot();
        anyCapabilityDoes();
        remove();
        revoke();
        firstAndLastPlace();
        revokeOfAll();
        CHECK.finish();
    }

    private static void due(String what, long got, long want) {
        CHECK.due(what, got, want);
    }

    private static void stepChanges(String what, Picture.Maker maker, String want) {
        CHECK.due(what, Picture.changes(maker, x -> x.step(1)), want);
    }

    /** Thread 0 is about to run the word, with this capability in the slot; thread 1 is ready too. */
    private static GrantKernel with(int word, int slot, int kind, int object, int rights) {
        GrantKernel x = new GrantKernel(8);
        Code.start(x, 0, word);
        Code.start(x, 10, Code.go(0));
        x.give(0, slot, kind, object, rights);
        return x;
    }

    private static String fault(int number) {
        return "state 0: 1 -> 5; fault 0: 0 -> " + number + "; row: [0 1] -> [1]";
    }

    private static void mint() {
        CHECK.says("slot B, which must be empty, gets a capability of the kind and object of that in slot A");
        for (int from = 0; from < 8; from++) {
            for (int to = 0; to < 8; to++) {
                int slot = from;
                int word = Code.word(19, from, to, 7, 7);
                // A pair of slots stands in the order of their numbers.
                String parent = "below 0." + from + ": 0 -> 1";
                String child = "slot 0." + to + ": empty -> (1 3 6 " + from + "); below 0." + to + ": -1 -> 0";
                stepChanges("mint " + from + " into " + to, () -> with(word, slot, 1, 3, 6), from == to ? fault(5)
                    : "counter 0: 0 -> 1; " + (from < to ? parent + "; " + child : child + "; " + parent));
            }
        }

        CHECK.says("with those of its rights that are in N too, and with that in slot A as its parent");
        int[] masks = {0, 1, 2, 3, 4, 5, 6, 7, 8, 9, 15, 16, -1, -2, -3, -5, -8, LEAST_N, LEAST_N + 1, MOST_N, MOST_N - 1};
        for (int n : masks) {
            for (int rights = 0; rights < 8; rights++) {
                for (int kind = 1; kind <= 2; kind++) {
                    GrantKernel x = with(Code.mint(2, 1, n), 2, kind, 0, rights);
                    x.step(1);
                    CHECK.due("N " + n + " of rights " + rights, Picture.capability(x, 0, 1),
                        "(" + kind + " 0 " + (rights & n) + " 2)");
                    CHECK.due("the parent stays", Picture.capability(x, 0, 2), "(" + kind + " 0 " + rights + " -1)");
                }
            }
        }
        GrantKernel x = new GrantKernel(8);
        Code.start(x, 0, Code.mint(0, 1, 3), Code.mint(1, 2, 6), Code.mint(2, 3, 5));
        x.give(0, 0, 1, 0, 7);
        x.step(3);
        CHECK.due("of the first", Picture.capability(x, 0, 1), "(1 0 3 0)");
        CHECK.due("of the second", Picture.capability(x, 0, 2), "(1 0 2 1)");
        CHECK.due("of the third", Picture.capability(x, 0, 3), "(1 0 0 2)");
    }

    private static void mintIntoATakenSlot() {
        CHECK.says("Slot B not empty for MINT: 5");
        for (int kind = 1; kind <= 2; kind++) {
            for (int to : new int[] {0, 4, 6, 7}) {
                int taken = kind;
                stepChanges("slot " + to + " has kind " + kind, () -> {
                    GrantKernel x = with(Code.mint(5, to, 7), 5, 1, 2, 7);
                    x.give(0, to, taken, 0, 0);
                    return x;
                }, fault(5));
            }
        }
        stepChanges("slot A itself", () -> with(Code.mint(5, 5, 7), 5, 1, 2, 7), fault(5));
        stepChanges("all slots are full", () -> {
            GrantKernel x = with(Code.mint(0, 7, 7), 0, 1, 2, 7);
            for (int s = 1; s < 8; s++) {
                x.give(0, s, 1, 2, 7);
            }
            return x;
        }, fault(5));
        // The document tells the fault of slot A before that of slot B.
        stepChanges("slot A empty too", () -> with(Code.mint(4, 5, 7), 5, 1, 2, 7), fault(4));
        stepChanges("the same slot of another thread", () -> {
            GrantKernel x = with(Code.mint(5, 6, 7), 5, 1, 2, 7);
            x.give(1, 6, 1, 2, 7);
            return x;
        }, "counter 0: 0 -> 1; below 0.5: 0 -> 1; slot 0.6: empty -> (1 2 7 5); below 0.6: -1 -> 0");
    }

    private static void anyCapabilityDoes() {
        CHECK.says("for 19 to 21 any capability does");
        for (int slot : new int[] {0, 3, 7}) {
            for (int kind = 1; kind <= 2; kind++) {
                for (int rights = 0; rights < 8; rights++) {
                    for (int op = 19; op <= 21; op++) {
                        GrantKernel x = with(Code.word(op, slot, 5, 0, 7), slot, kind, 0, rights);
                        x.step(1);
                        due("op " + op + " by kind " + kind + " with rights " + rights, x.fault(0), 0);
                        due("counter", x.counter(0), 1);
                        CHECK.due("slot 5", Picture.capability(x, 0, 5),
                            op == 19 ? "(" + kind + " 0 " + rights + " " + slot + ")" : "empty");
                        due("slot A", x.capability(0, slot, 0), op == 20 ? -1 : kind);
                    }
                }
            }
            for (int op = 19; op <= 21; op++) {
                int word = Code.word(op, slot, 5, 0, 7);
                stepChanges("op " + op + " by none in slot " + slot, () -> with(word, 1, 1, 0, 7), fault(4));
                stepChanges("op " + op + " by none in slot " + slot + " of this thread", () -> {
                    GrantKernel x = with(word, 1, 1, 0, 7);
                    x.give(1, slot, 1, 0, 7);
                    return x;
                }, fault(4));
            }
        }
    }

    /**
     * Slot 0 of thread 0 above 1, that above 2 and 3, 3 above 4, and 2 above slot 6 of thread 1; the
     * last word is about to be run.
     */
    private static GrantKernel family(int last) {
        GrantKernel x = new GrantKernel(8);
        Code.start(x, 0, Code.mint(0, 1, 7), Code.mint(1, 2, 7), Code.mint(1, 3, 7), Code.mint(3, 4, 7),
            Code.sendWith(0, 1, 2), last, Code.HALT);
        Code.start(x, 10, Code.receive(0, 1, 6), Code.go(1));
        x.give(0, 0, 1, 1, 7);
        x.give(0, 7, 1, 1, 7);
        x.give(1, 0, 1, 1, 2);
        x.step(5);
        // Thread 1 takes the word and goes round until it is thread 0's turn.
        x.step(8);
        return x;
    }

    private static void remove() {
        CHECK.says("20: the capability in slot A is removed");
        stepChanges("one without descendants", () -> family(Code.word(20, 4, 0, 7, -1)),
            "counter 0: 5 -> 6; below 0.0: 5 -> 4; below 0.1: 4 -> 3; below 0.3: 1 -> 0"
                + "; slot 0.4: (1 1 7 3) -> empty; below 0.4: 0 -> -1");
        stepChanges("one by itself", () -> family(Code.remove(7)),
            "counter 0: 5 -> 6; slot 0.7: (1 1 7 -1) -> empty; below 0.7: 0 -> -1");
        CHECK.says("the capabilities whose parent it was get its parent");
        stepChanges("one in the midst", () -> family(Code.remove(1)),
            "counter 0: 5 -> 6; below 0.0: 5 -> 4; slot 0.1: (1 1 7 0) -> empty; below 0.1: 4 -> -1"
                + "; slot 0.2: (1 1 7 1) -> (1 1 7 0); slot 0.3: (1 1 7 1) -> (1 1 7 0)");
        stepChanges("one with a child in another thread", () -> family(Code.remove(2)),
            "counter 0: 5 -> 6; below 0.0: 5 -> 4; below 0.1: 4 -> 3; slot 0.2: (1 1 7 1) -> empty; below 0.2: 1 -> -1"
                + "; slot 1.6: (1 1 7 2) -> (1 1 7 1)");
        CHECK.says("or have none if it had none");
        stepChanges("the first of all", () -> family(Code.remove(0)),
            "counter 0: 5 -> 6; slot 0.0: (1 1 7 -1) -> empty; below 0.0: 5 -> -1; slot 0.1: (1 1 7 0) -> (1 1 7 -1)");
        CHECK.says("To REMOVE a capability is to empty its slot");
        GrantKernel x = family(Code.remove(1));
        x.step(1);
        CHECK.due("another one may come there", x.give(0, 1, 2, 0, 1), true);
        CHECK.due("it has no parent", Picture.capability(x, 0, 1), "(2 0 1 -1)");
        due("and none below it", x.descendants(0, 1), 0);
        CHECK.due("nor is it a parent", Picture.capability(x, 0, 2), "(1 1 7 0)");
    }

    private static void revoke() {
        CHECK.says("21: REVOKE: all descendants of the capability in slot A are taken out of their slots");
        stepChanges("of none", () -> family(Code.revoke(4)), "counter 0: 5 -> 6");
        stepChanges("of one by itself", () -> family(Code.revoke(7)), "counter 0: 5 -> 6");
        stepChanges("of one", () -> family(Code.word(21, 3, 0, 7, -1)),
            "counter 0: 5 -> 6; below 0.0: 5 -> 4; below 0.1: 4 -> 3; below 0.3: 1 -> 0"
                + "; slot 0.4: (1 1 7 3) -> empty; below 0.4: 0 -> -1");
        stepChanges("of one in another thread", () -> family(Code.revoke(2)),
            "counter 0: 5 -> 6; below 0.0: 5 -> 4; below 0.1: 4 -> 3; below 0.2: 1 -> 0"
                + "; slot 1.6: (1 1 7 2) -> empty; below 1.6: 0 -> -1");
        String belowOne = "; slot 0.2: (1 1 7 1) -> empty; below 0.2: 1 -> -1"
            + "; slot 0.3: (1 1 7 1) -> empty; below 0.3: 1 -> -1"
            + "; slot 0.4: (1 1 7 3) -> empty; below 0.4: 0 -> -1; slot 1.6: (1 1 7 2) -> empty; below 1.6: 0 -> -1";
        stepChanges("of four", () -> family(Code.revoke(1)),
            "counter 0: 5 -> 6; below 0.0: 5 -> 1; below 0.1: 4 -> 0" + belowOne);
        stepChanges("of five", () -> family(Code.revoke(0)),
            "counter 0: 5 -> 6; below 0.0: 5 -> 0; slot 0.1: (1 1 7 0) -> empty; below 0.1: 4 -> -1" + belowOne);
        GrantKernel x = family(Code.revoke(0));
        x.step(1);
        CHECK.due("another one may come there", x.give(0, 3, 2, 0, 1), true);
        due("and is below none", x.descendants(0, 0), 0);
    }

    /** All six threads have minted from slot 4 into this slot, and thread t is about to run the last word. */
    private static GrantKernel minted(int slot, int t, int last) {
        GrantKernel x = new GrantKernel(1);
        for (int u = 0; u < 6; u++) {
            Code.start(x, 10 * u, Code.mint(4, slot, 7), last);
            x.give(u, 4, 1, u % 4, 7);
        }
        x.step(6 + t);
        return x;
    }

    private static void firstAndLastPlace() {
        CHECK.says("the capabilities whose parent it was get its parent, or have none if it had none");
        for (int slot : new int[] {0, 7}) {
            for (int t : new int[] {0, 5}) {
                GrantKernel x = minted(slot, t, Code.remove(4));
                due("its parent before", x.capability(t, slot, 3), 8 * t + 4);
                x.step(1);
                due("slot 4 of " + t, x.capability(t, 4, 0), -1);
                due("parent of slot " + slot + " of " + t, x.capability(t, slot, 3), -1);
                due("it stays", x.capability(t, slot, 1), t % 4);
            }
        }
        CHECK.says("all descendants of the capability in slot A are taken out of their slots");
        for (int slot : new int[] {0, 7}) {
            for (int t : new int[] {0, 5}) {
                GrantKernel x = minted(slot, t, Code.revoke(4));
                x.step(1);
                due("slot " + slot + " of " + t, x.capability(t, slot, 0), -1);
                due("slot 4 of " + t, x.capability(t, 4, 0), 1);
                due("that of another thread", x.capability(5 - t, slot, 0), t == 0 ? 1 : -1);
            }
        }
    }

    /** Lets thread t revoke what is below its slot 0. */
    private static GrantKernel revoked(boolean chain, int t) {
        GrantKernel x = Scene.full(chain);
        x.put(t, 5, 1);
        for (int i = 0; i < 60 && x.state(t) == 1; i++) {
            x.step(1);
        }
        return x;
    }

    private static void revokeOfAll() {
        CHECK.says("its DESCENDANTS are the capabilities whose parent it is, and theirs");
        for (boolean chain : new boolean[] {true, false}) {
            for (int t = 0; t < 5; t++) {
                GrantKernel x = revoked(chain, t);
                due("halted", x.state(t), 6);
                for (int u = 0; u < 6; u++) {
                    for (int s = 0; s < 8; s++) {
                        boolean stays = u < t || (u == t && s == 0);
                        due("slot " + u + "." + s + " when " + t + " has revoked", x.capability(u, s, 0), stays ? 1 : -1);
                    }
                }
                due("below the first of all", x.descendants(0, 0), 8 * t);
            }
        }
    }
}
