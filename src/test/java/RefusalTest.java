/** A call that is refused, and one that only looks, changes nothing: for each promise of 2 to 18. */
public final class RefusalTest {
    private static final int MIN = Integer.MIN_VALUE;
    private static final int MAX = Integer.MAX_VALUE;
    private static final int[] WRONG = {-1, MIN, MAX, 128};
    private static final Check CHECK = new Check("RefusalTest");

    public static void main(String[] args) {
        CHECK.due("the threads", threads(refusing(busy())), threads(busy()));
        CHECK.due("the capabilities", capabilities(refusing(busy())), capabilities(busy()));
        CHECK.due("what comes later", threads(later(refusing(busy()))), threads(later(busy())));
        CHECK.due("looking and the threads", threads(looking(busy())), threads(busy()));
        CHECK.due("looking and the capabilities", capabilities(looking(busy())), capabilities(busy()));
        CHECK.finish();
    }

    /** All six threads in use, one in each state but free, with a caller, grants and prints. */
    private static GrantKernel busy() {
        GrantKernel x = new GrantKernel(2);
        Code.start(x, 0, Code.call(0, 1));
        Code.start(x, 10, Code.receive(0, 1, 2), Code.go(1));
        Code.start(x, 20, Code.sendWith(0, 1, 0));
        Code.start(x, 30, Code.receive(0, 1, 2));
        Code.start(x, 40, Code.mint(0, 1, 1), Code.print(1, 3), 31);
        Code.start(x, 50, Code.print(0, 3), Code.HALT);
        x.give(0, 0, 1, 0, 7);
        x.give(1, 0, 1, 0, 7);
        x.give(2, 0, 1, 1, 7);
        x.give(3, 0, 1, 2, 7);
        x.give(4, 0, 2, 0, 7);
        x.give(5, 0, 2, 0, 7);
        x.step(12);
        int[] states = {3, 1, 2, 4, 5, 6};
        for (int t = 0; t < 6; t++) {
            CHECK.due("state of " + t, x.state(t), states[t]);
        }
        return x;
    }

    private static GrantKernel refusing(GrantKernel x) {
        for (int w : WRONG) {
            CHECK.due("poke", x.poke(w, 7), false);
            CHECK.due("spawn", x.spawn(0, w, w), -1);
            CHECK.due("put thread", x.put(w, 0, 7), false);
            CHECK.due("put register", x.put(0, w, 7), false);
            CHECK.due("give thread", x.give(w, 1, 1, 1, 1), false);
            CHECK.due("give slot", x.give(1, w, 1, 1, 1), false);
            CHECK.due("give kind", x.give(1, 1, w, 1, 1), false);
            CHECK.due("give object", x.give(1, 1, 1, w, 1), false);
            CHECK.due("give rights", x.give(1, 1, 1, 1, w), false);
            CHECK.due("reap", x.reap(w), false);
            CHECK.due("step", x.step(w), -1);
        }
        CHECK.due("step 0", x.step(0), -1);
        CHECK.due("step 51", x.step(51), -1);
        CHECK.due("no free thread", x.spawn(0, 0, 1), -1);
        for (int t = 0; t < 4; t++) {
            CHECK.due("give taken", x.give(t, 0, 2, 0, 1), false);
            CHECK.due("reap early", x.reap(t), false);
        }
        return x;
    }

    private static GrantKernel looking(GrantKernel x) {
        threads(x);
        return x;
    }

    private static GrantKernel later(GrantKernel x) {
        x.poke(11, Code.answer(1));
        x.step(9);
        return x;
    }

    private static String threads(GrantKernel x) {
        StringBuilder text = new StringBuilder();
        for (int t = 0; t < 6; t++) {
            text.append("\n  thread ").append(t).append(": ").append(x.state(t)).append(' ').append(x.fault(t));
            text.append(' ').append(x.counter(t)).append(' ').append(x.caller(t)).append(" registers");
            for (int r = 0; r < 8; r++) {
                text.append(' ').append(x.register(t, r));
            }
        }
        for (int e = -1; e < 4; e++) {
            text.append("\n  row ").append(e).append(':');
            for (int k = 0; k < 6; k++) {
                text.append(' ').append(x.inRow(e, k));
            }
        }
        text.append("\n  printed ").append(x.printed()).append(':');
        for (int k = 0; k < 4; k++) {
            text.append(' ').append(x.print(k));
        }
        text.append("\n  memory:");
        for (int a = 0; a < 60; a++) {
            text.append(' ').append(x.peek(a));
        }
        return text.append(' ').append(x.peek(127)).toString();
    }

    private static String capabilities(GrantKernel x) {
        StringBuilder text = new StringBuilder();
        for (int t = 0; t < 6; t++) {
            for (int s = 0; s < 8; s++) {
                text.append("\n  ").append(t).append('.').append(s).append(':');
                for (int part = 0; part < 4; part++) {
                    text.append(' ').append(x.capability(t, s, part));
                }
                text.append(" below ").append(x.descendants(t, s));
            }
        }
        return text.toString();
    }
}
