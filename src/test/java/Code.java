/** Instruction words, written by name. */
final class Code {
    static final int YIELD = 13;
    static final int HALT = 0;

    private Code() {
    }

    static int word(int op, int a, int b, int c, int n) {
        return op | a << 5 | b << 8 | c << 11 | n << 14;
    }

    static int set(int a, int n) {
        return word(1, a, 0, 0, n);
    }

    static int load(int a, int b, int n) {
        return word(8, a, b, 0, n);
    }

    static int store(int a, int b, int n) {
        return word(9, a, b, 0, n);
    }

    static int go(int n) {
        return word(10, 0, 0, 0, n);
    }

    static int goIfZero(int a, int n) {
        return word(11, a, 0, 0, n);
    }

    static int goIfBelow(int a, int n) {
        return word(12, a, 0, 0, n);
    }

    static int print(int slot, int b) {
        return word(14, slot, b, 0, 0);
    }

    static int send(int slot, int b) {
        return word(15, slot, b, 0, 0);
    }

    static int sendWith(int slot, int b, int c) {
        return word(15, slot, b, c, 1);
    }

    static int call(int slot, int b) {
        return word(16, slot, b, 0, 0);
    }

    static int callWith(int slot, int b, int c) {
        return word(16, slot, b, c, 1);
    }

    static int receive(int slot, int b, int c) {
        return word(17, slot, b, c, 0);
    }

    static int answer(int b) {
        return word(18, 0, b, 0, 0);
    }

    static int mint(int from, int to, int mask) {
        return word(19, from, to, 0, mask);
    }

    static int remove(int slot) {
        return word(20, slot, 0, 0, 0);
    }

    static int revoke(int slot) {
        return word(21, slot, 0, 0, 0);
    }

    static int has(int a, int slot) {
        return word(22, a, slot, 0, 0);
    }

    /** Pokes the words from base on and spawns a thread at their start, with a piece just as long. */
    static int start(GrantKernel x, int base, int... words) {
        for (int i = 0; i < words.length; i++) {
            x.poke(base + i, words[i]);
        }
        return x.spawn(0, base, words.length);
    }
}
