/** Kernels in which much is going on, so that a change that should not be would show. */
final class Scene {
    private Scene() {
    }

    /**
     * All six threads in use: 0 answered later, 1 ready with the caller 0 and in the midst of its
     * quantum, 2 sending, 3 receiving, 4 faulted, 5 halted; with grants, prints and a full memory.
     */
    static GrantKernel busy() {
        GrantKernel x = new GrantKernel(2);
        Code.start(x, 0, Code.callWith(0, 1, 0));
        Code.start(x, 10, Code.receive(0, 1, 2), Code.go(1), Code.answer(3), Code.receive(6, 4, 7), Code.sendWith(5, 1, 0));
        Code.start(x, 20, Code.sendWith(0, 1, 0));
        Code.start(x, 30, Code.receive(0, 1, 2));
        Code.start(x, 40, Code.mint(0, 1, 1), Code.print(1, 3), 31);
        Code.start(x, 50, Code.print(0, 3), Code.HALT);
        for (int t = 0; t < 6; t++) {
            x.give(t, 0, t < 4 ? 1 : 2, t == 2 || t == 3 ? t - 1 : 0, 7);
            for (int r = 0; r < 8; r++) {
                x.put(t, r, 100 * t + r + 1);
            }
        }
        x.poke(60, Code.go(0));
        x.poke(127, 127);
        x.step(13);
        return x;
    }

    /** The busy one, with thread 5 free again. */
    static GrantKernel withFree() {
        GrantKernel x = busy();
        x.reap(5);
        return x;
    }

    /**
     * All 48 slots full, and all below slot 0 of thread 0: as one chain, or each below the first slot
     * of its thread. Thread 5 is sending, the others are ready; one of these whose register 5 is put
     * to another number than 0 revokes what is below its slot 0 and halts.
     */
    static GrantKernel full(boolean chain) {
        GrantKernel x = new GrantKernel(8);
        int[] words = {Code.receive(7, 1, 0), Code.remove(7), Code.mint(0, 1, 7), Code.mint(chain ? 1 : 0, 2, 7),
            Code.mint(chain ? 2 : 0, 3, 7), Code.mint(chain ? 3 : 0, 4, 7), Code.mint(chain ? 4 : 0, 5, 7),
            Code.mint(chain ? 5 : 0, 6, 7), Code.mint(chain ? 6 : 0, 7, 7), Code.sendWith(0, 1, chain ? 7 : 0),
            Code.goIfZero(5, 10), Code.revoke(0), Code.HALT};
        for (int i = 0; i < words.length; i++) {
            x.poke(i, words[i]);
        }
        for (int t = 0; t < 6; t++) {
            // Thread 0 has the capability that the others get from the thread before them.
            x.spawn(t == 0 ? 2 : 0, 0, words.length);
            x.give(t, t == 0 ? 0 : 7, 1, 0, t == 0 ? 7 : 2);
        }
        for (int i = 0; i < 20; i++) {
            x.step(50);
        }
        return x;
    }

    /** Makes what can't be looked at show: how long the first has run, and what waits at endpoints. */
    static void goOn(GrantKernel x) {
        x.reap(5);
        x.spawn(0, 60, 1);
        x.step(1);
        x.give(1, 6, 1, 1, 2);
        x.give(1, 5, 1, 2, 5);
        x.poke(11, Code.go(2));
        x.step(10);
    }
}
