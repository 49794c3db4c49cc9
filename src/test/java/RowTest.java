/** Promise 8: who is first in the row, and for how long. */
public final class RowTest {
    private static final Check CHECK = new Check("RowTest");

    public static void main(String[] args) {
        quantumGoesRound();
        yieldBeginsAnew();
        aloneYieldBeginsAnew();
        leavingBeginsAnew();
        aloneAgainBeginsAnew();
        wokenComesBeforeTheOneThatGoesToTheEnd();
        fault();
        CHECK.finish();
    }

    private static void due(String what, long got, long want) {
        CHECK.due(what, got, want);
    }

    /** The threads that ran, in order, told by who was first before each step. */
    private static String order(GrantKernel x, int steps) {
        StringBuilder text = new StringBuilder();
        for (int i = 0; i < steps; i++) {
            text.append(x.inRow(-1, 0)).append(' ');
            x.step(1);
        }
        return text.toString().trim();
    }

    private static void quantumGoesRound() {
        GrantKernel x = new GrantKernel(2);
        x.poke(0, Code.go(0));
        for (int t = 0; t < 3; t++) {
            x.spawn(0, 0, 1);
        }
        CHECK.due("quantum 2", order(x, 9), "0 0 1 1 2 2 0 0 1");
        GrantKernel y = new GrantKernel(3);
        y.poke(0, Code.go(0));
        y.spawn(0, 0, 1);
        y.step(2);
        y.spawn(0, 0, 1);
        CHECK.due("a newcomer changes nothing for the first", order(y, 5), "0 1 1 1 0");
    }

    private static void yieldBeginsAnew() {
        GrantKernel x = new GrantKernel(3);
        Code.start(x, 0, Code.set(1, 1), Code.YIELD, Code.set(1, 1), Code.set(1, 2), Code.set(1, 3), Code.set(1, 4));
        Code.start(x, 10, Code.go(0));
        CHECK.due("yield", order(x, 12), "0 0 1 1 1 0 0 0 1 1 1 0");
        due("counter", x.counter(0), 6);
    }

    private static void aloneYieldBeginsAnew() {
        GrantKernel x = new GrantKernel(3);
        Code.start(x, 0, Code.set(1, 1), Code.YIELD, Code.go(2));
        x.step(2);
        due("alone, still first", x.inRow(-1, 0), 0);
        due("alone, still ready", x.state(0), 1);
        Code.start(x, 10, Code.go(0));
        CHECK.due("yield alone", order(x, 4), "0 0 0 1");
        GrantKernel y = new GrantKernel(3);
        Code.start(y, 0, Code.go(0));
        y.step(4);
        Code.start(y, 10, Code.go(0));
        CHECK.due("quantum alone", order(y, 3), "0 0 1");
    }

    private static void leavingBeginsAnew() {
        GrantKernel x = new GrantKernel(3);
        Code.start(x, 0, Code.set(1, 1), Code.HALT);
        Code.start(x, 10, Code.set(1, 1), Code.receive(0, 0, 0));
        Code.start(x, 20, Code.set(1, 1), 31);
        Code.start(x, 30, Code.go(0));
        Code.start(x, 40, Code.go(0));
        x.give(1, 0, 1, 0, 2);
        CHECK.due("leaving", order(x, 10), "0 0 1 1 2 2 3 3 3 4");
    }

    private static void aloneAgainBeginsAnew() {
        GrantKernel x = new GrantKernel(3);
        Code.start(x, 0, Code.set(1, 1), Code.HALT);
        x.step(50);
        x.reap(0);
        Code.start(x, 0, Code.go(0));
        Code.start(x, 10, Code.go(0));
        CHECK.due("the same number again", order(x, 4), "0 0 0 1");
    }

    private static void wokenComesBeforeTheOneThatGoesToTheEnd() {
        GrantKernel x = new GrantKernel(1);
        Code.start(x, 0, Code.receive(0, 0, 0), Code.go(1));
        Code.start(x, 10, Code.send(0, 0), Code.go(1));
        Code.start(x, 20, Code.go(0));
        x.give(0, 0, 1, 0, 2);
        x.give(1, 0, 1, 0, 1);
        x.step(2);
        due("first", x.inRow(-1, 0), 2);
        due("second", x.inRow(-1, 1), 0);
        due("third", x.inRow(-1, 2), 1);
        due("no fourth", x.inRow(-1, 3), -1);
    }

    private static void fault() {
        GrantKernel x = new GrantKernel(8);
        Code.start(x, 0, 31);
        Code.start(x, 1, Code.set(1, 4));
        due("a fault is a step", x.step(1), 1);
        due("faulted one is out", x.inRow(-1, 0), 1);
        due("the other is alone", x.inRow(-1, 1), -1);
        x.give(0, 0, 1, 0, 7);
        due("a faulted one gets a capability", x.capability(0, 0, 0), 1);
        due("and stays faulted", x.state(0), 5);
    }
}
