/** Promise 8 with 7, 14 and 15: MINT, removal, REVOKE, the parents and the descendants. */
public final class CapabilityTest {
    private static final Check CHECK = new Check("CapabilityTest");

    public static void main(String[] args) {
        mint();
        mintRights();
        mintFaults();
        removeHandsChildrenUp();
        removeOfARoot();
        removeFault();
        revoke();
        revokeAcrossThreads();
        revokeWhateverTheOrderOfSlots();
        revokeFault();
        has();
        reapHandsChildrenUp();
        slotUsedAgainIsNoParent();
        longChain();
        firstAndLastPlace();
        CHECK.finish();
    }

    private static void due(String what, long got, long want) {
        CHECK.due(what, got, want);
    }

    private static GrantKernel running(int... words) {
        GrantKernel x = new GrantKernel(8);
        Code.start(x, 0, words);
        x.give(0, 0, 1, 3, 7);
        return x;
    }

    private static void mint() {
        GrantKernel x = running(Code.mint(0, 5, 3), Code.mint(5, 6, 6));
        x.step(2);
        int[][] want = {{1, 3, 7, -1}, {1, 3, 3, 0}, {1, 3, 2, 5}};
        int[] slots = {0, 5, 6};
        for (int i = 0; i < 3; i++) {
            for (int part = 0; part < 4; part++) {
                due("slot " + slots[i] + " part " + part, x.capability(0, slots[i], part), want[i][part]);
            }
            due("descendants of " + slots[i], x.descendants(0, slots[i]), 2 - i);
        }
        due("counter", x.counter(0), 2);
        GrantKernel y = running(Code.mint(1, 7, 1));
        y.give(0, 1, 2, 0, 1);
        y.step(1);
        due("a console minted", y.capability(0, 7, 0), 2);
        due("its parent", y.capability(0, 7, 3), 1);
    }

    private static void mintRights() {
        for (int rights = 0; rights < 8; rights++) {
            for (int mask : new int[] {0, 1, 2, 4, 7, 8, -1, -8, 15, -4}) {
                GrantKernel x = new GrantKernel(8);
                Code.start(x, 0, Code.mint(2, 1, mask));
                x.give(0, 2, 1, 1, rights);
                x.step(1);
                due("rights " + rights + " mask " + mask, x.capability(0, 1, 2), rights & mask);
            }
        }
    }

    private static void mintFaults() {
        GrantKernel taken = running(Code.mint(0, 1, 7));
        taken.give(0, 1, 2, 0, 1);
        taken.step(1);
        due("slot B taken", taken.fault(0), 5);
        due("slot B kept", taken.capability(0, 1, 0), 2);
        due("counter kept", taken.counter(0), 0);
        GrantKernel itself = running(Code.mint(0, 0, 7));
        itself.step(1);
        due("into itself", itself.fault(0), 5);
        GrantKernel none = running(Code.mint(1, 2, 7));
        none.step(1);
        due("nothing in slot A", none.fault(0), 4);
        GrantKernel both = running(Code.mint(1, 0, 7));
        both.step(1);
        due("nothing in slot A and slot B taken", both.fault(0), 4);
        GrantKernel emptyItself = running(Code.mint(1, 1, 7));
        emptyItself.step(1);
        due("an empty slot into itself", emptyItself.fault(0), 4);
    }

    private static void removeHandsChildrenUp() {
        GrantKernel x = running(Code.mint(0, 1, 7), Code.mint(1, 2, 7), Code.mint(1, 3, 7), Code.mint(3, 4, 7),
            Code.remove(1), Code.remove(3));
        x.step(4);
        due("before", x.descendants(0, 0), 4);
        due("below 1", x.descendants(0, 1), 3);
        x.step(1);
        due("gone", x.capability(0, 1, 0), -1);
        due("descendants of none", x.descendants(0, 1), -1);
        due("2 handed up", x.capability(0, 2, 3), 0);
        due("3 handed up", x.capability(0, 3, 3), 0);
        due("4 stays", x.capability(0, 4, 3), 3);
        due("after", x.descendants(0, 0), 3);
        x.step(1);
        due("4 handed up", x.capability(0, 4, 3), 0);
        due("counter", x.counter(0), 6);
    }

    private static void removeOfARoot() {
        GrantKernel x = running(Code.mint(0, 1, 7), Code.mint(1, 2, 7), Code.remove(0));
        x.step(3);
        due("root gone", x.capability(0, 0, 0), -1);
        due("child has none", x.capability(0, 1, 3), -1);
        due("its child stays", x.capability(0, 2, 3), 1);
        due("below the child", x.descendants(0, 1), 1);
    }

    private static void removeFault() {
        GrantKernel x = running(Code.remove(1));
        x.step(1);
        due("fault", x.fault(0), 4);
        due("counter", x.counter(0), 0);
        GrantKernel y = new GrantKernel(8);
        Code.start(y, 0, Code.remove(2), Code.HALT);
        y.give(0, 2, 2, 0, 0);
        y.step(2);
        due("any capability does", y.state(0), 6);
        due("and is gone", y.capability(0, 2, 0), -1);
    }

    private static void revoke() {
        GrantKernel x = running(Code.mint(0, 1, 7), Code.mint(1, 2, 7), Code.mint(2, 3, 7), Code.mint(0, 4, 7),
            Code.revoke(1), Code.revoke(3));
        x.give(0, 6, 1, 3, 7);
        x.step(5);
        due("itself stays", x.capability(0, 1, 3), 0);
        due("child gone", x.capability(0, 2, 0), -1);
        due("grandchild gone", x.capability(0, 3, 0), -1);
        due("another child of the root stays", x.capability(0, 4, 3), 0);
        due("a like one stays", x.capability(0, 6, 2), 7);
        due("below it", x.descendants(0, 1), 0);
        due("below the root", x.descendants(0, 0), 2);
        x.step(1);
        due("revoke of none", x.fault(0), 4);
    }

    private static void revokeAcrossThreads() {
        GrantKernel x = new GrantKernel(8);
        Code.start(x, 0, Code.sendWith(0, 1, 2), Code.receive(0, 1, 7), Code.revoke(2), Code.HALT);
        Code.start(x, 10, Code.receive(0, 1, 3), Code.mint(3, 4, 1), Code.sendWith(0, 1, 4), Code.HALT);
        x.give(0, 0, 1, 0, 7);
        x.give(1, 0, 1, 0, 7);
        x.give(0, 2, 2, 0, 7);
        x.step(4);
        due("at thread 1", x.capability(1, 3, 3), 2);
        due("minted there", x.capability(1, 4, 3), 11);
        due("two below", x.descendants(0, 2), 2);
        x.step(1);
        due("came back", x.capability(0, 7, 3), 12);
        due("three below", x.descendants(0, 2), 3);
        due("two below thread 1's", x.descendants(1, 3), 2);
        x.step(50);
        due("thread 0 done", x.state(0), 6);
        due("its own stays", x.capability(0, 2, 0), 2);
        due("what came back is gone", x.capability(0, 7, 0), -1);
        due("thread 1's are gone", x.capability(1, 3, 0), -1);
        due("its minted too", x.capability(1, 4, 0), -1);
        due("the endpoint stays", x.capability(1, 0, 0), 1);
    }

    private static void revokeWhateverTheOrderOfSlots() {
        int[][] orders = {{1, 2, 3, 4}, {4, 3, 2, 1}, {7, 1, 6, 2}, {3, 7, 1, 5}};
        for (int[] o : orders) {
            GrantKernel x = running(Code.mint(0, o[0], 7), Code.mint(o[0], o[1], 7), Code.mint(o[1], o[2], 7),
                Code.mint(o[2], o[3], 7), Code.revoke(o[0]), Code.revoke(0));
            x.step(4);
            due("all below " + o[0], x.descendants(0, 0), 4);
            x.step(1);
            due("one left of " + o[0], x.descendants(0, 0), 1);
            x.step(1);
            for (int s = 1; s < 8; s++) {
                due("slot " + s + " of " + o[0], x.capability(0, s, 0), -1);
            }
            due("root of " + o[0], x.capability(0, 0, 0), 1);
        }
    }

    private static void revokeFault() {
        GrantKernel x = new GrantKernel(8);
        Code.start(x, 0, Code.revoke(3), Code.revoke(4));
        x.give(0, 3, 2, 0, 0);
        x.step(1);
        due("without descendants", x.state(0), 1);
        due("stays", x.capability(0, 3, 0), 2);
        x.step(1);
        due("none", x.fault(0), 4);
        due("counter", x.counter(0), 1);
    }

    private static void has() {
        GrantKernel x = running(Code.has(1, 0), Code.has(2, 1), Code.remove(0), Code.has(1, 0), Code.HALT);
        x.put(0, 2, 9);
        x.step(2);
        due("there is one", x.register(0, 1), 1);
        due("there is none", x.register(0, 2), 0);
        x.step(3);
        due("there is none any more", x.register(0, 1), 0);
        due("no fault", x.state(0), 6);
    }

    private static void reapHandsChildrenUp() {
        GrantKernel x = new GrantKernel(8);
        // Thread 1 keeps 2 of thread 0 in slot 5, mints 5 -> 3 -> 6, and sends 6 on to thread 2.
        Code.start(x, 0, Code.sendWith(0, 1, 2), Code.go(1));
        Code.start(x, 10, Code.receive(0, 1, 5), Code.mint(5, 3, 7), Code.mint(3, 6, 7), Code.sendWith(1, 1, 6), Code.HALT);
        Code.start(x, 20, Code.receive(0, 1, 4), Code.YIELD, Code.go(1));
        x.give(0, 0, 1, 0, 7);
        x.give(0, 2, 2, 0, 7);
        x.give(1, 0, 1, 0, 2);
        x.give(1, 1, 1, 1, 7);
        x.give(2, 0, 1, 1, 2);
        x.step(8);
        due("sent on", x.capability(2, 4, 3), 14);
        due("four below", x.descendants(0, 2), 4);
        for (int i = 0; i < 20 && x.state(1) != 6; i++) {
            x.step(5);
        }
        due("reap", x.reap(1), true);
        due("handed up to thread 0", x.capability(2, 4, 3), 2);
        due("one below", x.descendants(0, 2), 1);
        for (int s = 0; s < 8; s++) {
            due("slot " + s, x.capability(1, s, 0), -1);
        }
        GrantKernel y = new GrantKernel(8);
        Code.start(y, 0, Code.mint(0, 1, 7), Code.sendWith(0, 1, 1), Code.HALT);
        Code.start(y, 10, Code.receive(0, 1, 4), Code.HALT);
        y.give(0, 0, 1, 0, 7);
        y.give(1, 0, 1, 0, 2);
        y.step(50);
        due("its parent", y.capability(1, 4, 3), 1);
        due("reap of the root's thread", y.reap(0), true);
        due("no parent left", y.capability(1, 4, 3), -1);
        due("it stays", y.capability(1, 4, 2), 7);
    }

    private static void due(String what, boolean got, boolean want) {
        CHECK.due(what, got, want);
    }

    private static void slotUsedAgainIsNoParent() {
        GrantKernel x = running(Code.mint(0, 1, 7), Code.mint(1, 2, 7), Code.remove(1), Code.HALT);
        x.step(3);
        due("given into the slot", x.give(0, 1, 2, 0, 1), true);
        due("parent of 2", x.capability(0, 2, 3), 0);
        due("below the new one", x.descendants(0, 1), 0);
        due("the new one has no parent", x.capability(0, 1, 3), -1);
        GrantKernel y = running(Code.mint(0, 1, 7), Code.mint(1, 2, 7), Code.revoke(0), Code.HALT);
        y.step(3);
        y.give(0, 1, 2, 0, 1);
        y.give(0, 2, 2, 0, 1);
        due("after revoke, below the first", y.descendants(0, 0), 0);
        due("after revoke, below the given", y.descendants(0, 1), 0);
        due("after revoke, parent", y.capability(0, 2, 3), -1);
    }

    /** A chain through six slots of each of four threads, sent on from one to the next. */
    private static void longChain() {
        GrantKernel x = new GrantKernel(8);
        int[] words = {Code.receive(7, 1, 0), Code.mint(0, 1, 7), Code.mint(1, 2, 7), Code.mint(2, 3, 7),
            Code.mint(3, 4, 7), Code.mint(4, 5, 7), Code.sendWith(6, 1, 5), Code.HALT, Code.revoke(0), Code.HALT};
        for (int i = 0; i < words.length; i++) {
            x.poke(i, words[i]);
        }
        for (int t = 0; t < 4; t++) {
            x.spawn(t == 0 ? 1 : 0, 0, words.length);
            x.give(t, 6, 1, t, 5);
            x.give(t, 7, 1, t == 0 ? 0 : t - 1, 2);
        }
        x.give(0, 0, 2, 0, 7);
        due("steps", x.step(50), 30);
        for (int t = 0; t < 4; t++) {
            due("below the first of " + t, x.descendants(t, 0), 23 - 6 * t);
        }
        due("parent in another thread", x.capability(3, 0, 3), 21);
        due("reap a middle one", x.reap(1), true);
        due("handed over the middle", x.capability(2, 0, 3), 5);
        due("fewer below", x.descendants(0, 0), 17);
        due("a new thread", x.spawn(8, 0, words.length), 1);
        x.give(1, 0, 2, 0, 7);
        x.step(50);
        due("a new thread's revoke takes nothing of the old one's", x.descendants(0, 0), 17);
        due("reap the first", x.reap(0), true);
        due("nothing above any more", x.capability(2, 0, 3), -1);
        due("the rest stays", x.descendants(2, 0), 11);
    }

    /** Slot 0 of thread 0 and slot 7 of thread 5, each with a child of it below. */
    private static GrantKernel ends(int last) {
        GrantKernel x = new GrantKernel(8);
        Code.start(x, 0, Code.mint(1, 0, 7), Code.mint(0, 4, 7), Code.sendWith(2, 1, 0), last, Code.HALT);
        for (int t = 1; t < 5; t++) {
            Code.start(x, 10, Code.HALT);
        }
        Code.start(x, 20, Code.receive(0, 1, 7), Code.mint(7, 6, 7), Code.HALT);
        x.give(0, 1, 2, 0, 7);
        x.give(0, 2, 1, 0, 5);
        x.give(5, 0, 1, 0, 2);
        x.step(10);
        return x;
    }

    private static void firstAndLastPlace() {
        GrantKernel x = ends(Code.revoke(1));
        due("parent of the first", x.capability(0, 0, 3), 1);
        due("parent of the last", x.capability(5, 7, 3), 0);
        due("parent below the last", x.capability(5, 6, 3), 47);
        due("below all", x.descendants(0, 1), 4);
        due("below the first", x.descendants(0, 0), 3);
        due("below the last", x.descendants(5, 7), 1);
        x.step(1);
        due("revoked: the first", x.capability(0, 0, 0), -1);
        due("revoked: the last", x.capability(5, 7, 0), -1);
        due("revoked: the one before", x.capability(5, 6, 0), -1);
        due("revoked: below the first", x.capability(0, 4, 0), -1);
        due("revoked: itself stays", x.descendants(0, 1), 0);
        GrantKernel y = ends(Code.remove(1));
        y.step(1);
        due("removed: the first has none above", y.capability(0, 0, 3), -1);
        due("removed: the rest hangs on", y.descendants(0, 0), 3);
        GrantKernel z = ends(Code.remove(0));
        z.step(1);
        due("removed: the last handed up", z.capability(5, 7, 3), 1);
        due("removed: below the first handed up", z.capability(0, 4, 3), 1);
        z.step(50);
        due("reap the last thread", z.reap(5), true);
        due("one left below", z.descendants(0, 1), 1);
    }
}
