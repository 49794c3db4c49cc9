/** Promise 8 with 13, 16, 17: PRINT, SEND, CALL, RECEIVE, ANSWER and how a word is passed. */
public final class EndpointTest {
    private static final Check CHECK = new Check("EndpointTest");

    public static void main(String[] args) {
        neededCapabilities();
        printFault();
        sendWaits();
        receiveWaits();
        senderStaysFirst();
        longestWaitingFirst();
        endpointsAreApart();
        callThenReceive();
        receiveThenCall();
        callerInPlaceOfAnother();
        sendKeepsCaller();
        answerWithoutCaller();
        wordIsOfTheBeginning();
        memoryMayChangeMeanwhile();
        grants();
        grantOnlyIfAsked();
        grantNeedsEmptySlot();
        grantNeedsCapabilityThen();
        grantOfWhatIsThereThen();
        wordIntoRegisterSeven();
        revokedEndpointStillPasses();
        CHECK.finish();
    }

    private static void due(String what, long got, long want) {
        CHECK.due(what, got, want);
    }

    private static void neededCapabilities() {
        for (int op = 14; op <= 17; op++) {
            for (int n = -1; n <= 2; n++) {
                for (int kind = 0; kind <= 2; kind++) {
                    for (int rights = 0; rights <= 7; rights++) {
                        oneNeed(op, n, kind, rights);
                    }
                }
            }
        }
    }

    private static void oneNeed(int op, int n, int kind, int rights) {
        GrantKernel x = new GrantKernel(8);
        Code.start(x, 0, Code.word(op, 3, 1, 2, n));
        x.give(0, 3, kind, 0, rights);
        x.put(0, 1, 66);
        x.step(1);
        int needed = op == 17 ? 2 : op != 14 && (n & 1) == 1 ? 5 : 1;
        boolean good = kind == (op == 14 ? 2 : 1) && (rights & needed) == needed;
        String what = "op " + op + " N " + n + " kind " + kind + " rights " + rights;
        int state = op == 14 ? 1 : op == 17 ? 4 : 2;
        due(what + " fault", x.fault(0), good ? 0 : 4);
        due(what + " state", x.state(0), good ? state : 5);
        due(what + " counter", x.counter(0), good ? 1 : 0);
        due(what + " printed", x.printed(), good && op == 14 ? 1 : 0);
        due(what + " row", x.inRow(0, 0), good && op != 14 ? 0 : -1);
    }

    private static void printFault() {
        GrantKernel x = new GrantKernel(8);
        Code.start(x, 0, Code.print(1, 2), Code.print(2, 2));
        x.give(0, 1, 2, 0, 1);
        x.put(0, 2, -9);
        x.step(50);
        due("printed", x.printed(), 1);
        due("print", x.print(0), -9);
        due("fault", x.fault(0), 4);
        due("counter", x.counter(0), 1);
    }

    private static GrantKernel pair(int first, int second) {
        GrantKernel x = new GrantKernel(8);
        Code.start(x, 0, first, Code.go(1));
        Code.start(x, 10, second, Code.go(1));
        x.give(0, 0, 1, 2, 7);
        x.give(1, 0, 1, 2, 7);
        return x;
    }

    private static void sendWaits() {
        GrantKernel x = pair(Code.send(0, 1), Code.receive(0, 4, 5));
        x.put(0, 1, 31);
        x.put(1, 7, 9);
        x.step(1);
        due("sending", x.state(0), 2);
        due("at its endpoint", x.inRow(2, 0), 0);
        due("counter of the sender", x.counter(0), 1);
        due("the row", x.inRow(-1, 0), 1);
        x.step(1);
        due("word", x.register(1, 4), 31);
        due("nothing granted", x.register(1, 7), 0);
        due("sender ready", x.state(0), 1);
        due("receiver ready", x.state(1), 1);
        due("endpoint empty", x.inRow(2, 0), -1);
        due("receiver still first", x.inRow(-1, 0), 1);
        due("sender at the end", x.inRow(-1, 1), 0);
        due("no caller", x.caller(1), -1);
    }

    private static void receiveWaits() {
        GrantKernel x = pair(Code.receive(0, 4, 5), Code.send(0, 1));
        x.put(1, 1, 31);
        x.put(0, 7, 9);
        x.step(1);
        due("receiving", x.state(0), 4);
        due("at its endpoint", x.inRow(2, 0), 0);
        due("its registers wait", x.register(0, 7), 9);
        x.step(1);
        due("word", x.register(0, 4), 31);
        due("nothing granted", x.register(0, 7), 0);
        due("receiver ready", x.state(0), 1);
        due("sender ready", x.state(1), 1);
        due("endpoint empty", x.inRow(2, 0), -1);
        due("sender still first", x.inRow(-1, 0), 1);
        due("receiver at the end", x.inRow(-1, 1), 0);
    }

    private static void senderStaysFirst() {
        GrantKernel x = new GrantKernel(2);
        Code.start(x, 0, Code.receive(0, 4, 5), Code.go(1));
        Code.start(x, 10, Code.send(0, 1), Code.go(1));
        x.give(0, 0, 1, 2, 7);
        x.give(1, 0, 1, 2, 7);
        x.step(2);
        due("after its SEND", x.inRow(-1, 0), 1);
        x.step(1);
        due("after its quantum", x.inRow(-1, 0), 0);
    }

    private static void longestWaitingFirst() {
        GrantKernel x = new GrantKernel(8);
        x.poke(0, Code.send(0, 1));
        x.poke(1, Code.HALT);
        for (int t = 0; t < 4; t++) {
            x.spawn(0, 0, 2);
            x.put(t, 1, 50 + t);
            x.give(t, 0, 1, 3, 1);
        }
        Code.start(x, 10, Code.receive(0, 2, 0), Code.go(0));
        x.give(4, 0, 1, 3, 2);
        x.step(4);
        for (int k = 0; k < 4; k++) {
            due("place " + k, x.inRow(3, k), k);
        }
        for (int k = 0; k < 4; k++) {
            x.step(1);
            due("word " + k, x.register(4, 2), 50 + k);
            due("next " + k, x.inRow(3, 0), k < 3 ? k + 1 : -1);
            due("woken " + k, x.inRow(-1, k + 1), k);
            x.step(1);
        }
    }

    private static void endpointsAreApart() {
        GrantKernel x = new GrantKernel(8);
        Code.start(x, 0, Code.send(0, 1));
        Code.start(x, 10, Code.receive(0, 1, 0));
        x.give(0, 0, 1, 1, 1);
        x.give(1, 0, 1, 2, 2);
        x.step(2);
        due("sending at 1", x.inRow(1, 0), 0);
        due("receiving at 2", x.inRow(2, 0), 1);
        due("nobody is ready", x.step(5), 0);
    }

    private static void callThenReceive() {
        GrantKernel x = new GrantKernel(8);
        Code.start(x, 0, Code.call(0, 3), Code.go(1));
        Code.start(x, 10, Code.receive(0, 4, 5), Code.answer(6), Code.answer(2), Code.go(3));
        x.give(0, 0, 1, 2, 1);
        x.give(1, 0, 1, 2, 2);
        x.put(0, 3, 11);
        x.put(1, 6, 22);
        x.put(1, 2, 33);
        x.step(1);
        due("sending", x.state(0), 2);
        x.step(1);
        due("answered later", x.state(0), 3);
        due("in no row", x.inRow(2, 0), -1);
        due("not in the row", x.inRow(-1, 1), -1);
        due("caller", x.caller(1), 0);
        due("word", x.register(1, 4), 11);
        x.step(1);
        due("ready", x.state(0), 1);
        due("at the end of the row", x.inRow(-1, 1), 0);
        due("the one that answers is first", x.inRow(-1, 0), 1);
        due("answer", x.register(0, 3), 22);
        due("no caller any more", x.caller(1), -1);
        x.step(1);
        due("a second answer does nothing", x.register(0, 3), 22);
        due("nobody comes", x.inRow(-1, 2), -1);
    }

    private static void receiveThenCall() {
        GrantKernel x = new GrantKernel(8);
        Code.start(x, 0, Code.receive(0, 4, 5), Code.answer(4), Code.HALT);
        Code.start(x, 10, Code.call(0, 3), Code.go(1));
        x.give(0, 0, 1, 2, 2);
        x.give(1, 0, 1, 2, 1);
        x.put(1, 3, 11);
        x.step(2);
        due("answered later", x.state(1), 3);
        due("receiver is alone", x.inRow(-1, 0), 0);
        due("in the row", x.inRow(-1, 1), -1);
        due("caller", x.caller(0), 1);
        x.put(1, 3, 99);
        x.step(1);
        due("answered", x.register(1, 3), 11);
        due("ready", x.state(1), 1);
        x.step(1);
        due("halted", x.state(0), 6);
        due("counter of the caller", x.counter(1), 1);
    }

    private static void callerInPlaceOfAnother() {
        GrantKernel x = new GrantKernel(8);
        Code.start(x, 0, Code.call(0, 1), Code.HALT);
        Code.start(x, 10, Code.call(0, 2), Code.HALT);
        Code.start(x, 20, Code.receive(0, 4, 5), Code.receive(0, 4, 5), Code.answer(6), Code.answer(6), Code.HALT);
        x.give(0, 0, 1, 2, 1);
        x.give(1, 0, 1, 2, 1);
        x.give(2, 0, 1, 2, 2);
        x.put(2, 6, 5);
        x.step(3);
        due("first caller", x.caller(2), 0);
        x.step(1);
        due("second caller", x.caller(2), 1);
        x.step(50);
        due("second was answered", x.register(1, 2), 5);
        due("second went on", x.state(1), 6);
        due("first was not", x.register(0, 1), 0);
        due("first waits", x.state(0), 3);
    }

    private static void sendKeepsCaller() {
        GrantKernel x = new GrantKernel(8);
        Code.start(x, 0, Code.call(0, 1), Code.HALT);
        Code.start(x, 10, Code.send(0, 2), Code.HALT);
        Code.start(x, 20, Code.receive(0, 4, 5), Code.receive(0, 4, 5), 31);
        x.give(0, 0, 1, 2, 1);
        x.give(1, 0, 1, 2, 1);
        x.give(2, 0, 1, 2, 2);
        x.step(4);
        due("still the caller", x.caller(2), 0);
        x.step(50);
        due("faulted", x.state(2), 5);
        due("still when faulted", x.caller(2), 0);
        x.reap(2);
        due("answered by nobody", x.state(0), 3);
        due("none when free", x.caller(2), -1);
    }

    private static void answerWithoutCaller() {
        GrantKernel x = new GrantKernel(8);
        Code.start(x, 0, Code.answer(1));
        x.put(0, 1, 4);
        due("step", x.step(1), 1);
        due("counter", x.counter(0), 1);
        due("ready", x.state(0), 1);
        due("fault", x.fault(0), 0);
        due("register", x.register(0, 1), 4);
    }

    private static void wordIsOfTheBeginning() {
        GrantKernel x = pair(Code.send(0, 1), Code.receive(0, 4, 5));
        x.put(0, 1, 31);
        x.step(1);
        x.put(0, 1, 32);
        x.step(1);
        due("the word when it was begun", x.register(1, 4), 31);
        due("the register is as it was put", x.register(0, 1), 32);
    }

    private static void memoryMayChangeMeanwhile() {
        GrantKernel x = pair(Code.callWith(0, 1, 3), Code.receive(0, 4, 5));
        x.give(0, 3, 2, 0, 1);
        x.put(0, 1, 31);
        x.poke(11, Code.answer(4));
        x.step(1);
        x.poke(0, Code.send(7, 7));
        x.step(2);
        due("granted", x.capability(1, 5, 3), 3);
        due("answered into its own register", x.register(0, 1), 31);
        due("called", x.state(0), 1);
        GrantKernel y = pair(Code.receive(0, 4, 5), Code.sendWith(0, 1, 3));
        y.give(1, 3, 2, 0, 1);
        y.put(1, 1, 31);
        y.step(1);
        y.poke(0, Code.receive(0, 6, 6));
        y.step(1);
        due("received into the register of then", y.register(0, 4), 31);
        due("received into the slot of then", y.capability(0, 5, 0), 2);
    }

    private static void grants() {
        for (int order = 0; order < 2; order++) {
            for (int op = 15; op <= 16; op++) {
                for (int n : new int[] {1, -1, 3}) {
                    int send = Code.word(op, 0, 1, 3, n);
                    int receive = Code.receive(0, 4, 5);
                    int s = order;
                    int r = 1 - order;
                    GrantKernel x = pair(s == 0 ? send : receive, s == 0 ? receive : send);
                    x.give(s, 3, 1, 3, 6);
                    x.step(2);
                    String what = "order " + order + " op " + op + " N " + n;
                    due(what + " kind", x.capability(r, 5, 0), 1);
                    due(what + " object", x.capability(r, 5, 1), 3);
                    due(what + " rights", x.capability(r, 5, 2), 6);
                    due(what + " parent", x.capability(r, 5, 3), 8 * s + 3);
                    due(what + " descendants", x.descendants(s, 3), 1);
                    due(what + " register 7", x.register(r, 7), 1);
                    due(what + " sender", x.state(s), op == 15 ? 1 : 3);
                    due(what + " caller", x.caller(r), op == 15 ? -1 : s);
                }
            }
        }
    }

    private static void grantOnlyIfAsked() {
        for (int n : new int[] {0, 2, -2}) {
            GrantKernel x = pair(Code.word(15, 0, 1, 3, n), Code.word(17, 0, 4, 5, 1));
            x.give(0, 3, 1, 3, 7);
            x.put(1, 7, 8);
            x.step(2);
            due("N " + n, x.capability(1, 5, 0), -1);
            due("register 7, N " + n, x.register(1, 7), 0);
        }
    }

    private static void grantNeedsEmptySlot() {
        GrantKernel x = pair(Code.sendWith(0, 1, 3), Code.receive(0, 4, 5));
        x.give(0, 3, 1, 3, 7);
        x.give(1, 5, 2, 0, 1);
        x.put(0, 1, 6);
        x.put(1, 7, 8);
        x.step(2);
        due("the slot keeps its own", x.capability(1, 5, 0), 2);
        due("no parent", x.capability(1, 5, 3), -1);
        due("register 7", x.register(1, 7), 0);
        due("the word came", x.register(1, 4), 6);
        GrantKernel y = pair(Code.sendWith(0, 1, 3), Code.receive(0, 4, 5));
        y.give(0, 3, 1, 3, 7);
        y.step(1);
        y.give(1, 5, 2, 0, 1);
        y.step(1);
        due("filled meanwhile", y.register(1, 7), 0);
    }

    private static void grantNeedsCapabilityThen() {
        GrantKernel x = pair(Code.sendWith(0, 1, 3), Code.receive(0, 4, 5));
        x.put(1, 7, 8);
        x.step(2);
        due("nothing there", x.register(1, 7), 0);
        due("nothing got", x.capability(1, 5, 0), -1);
        due("nothing wrong", x.state(0), 1);
        GrantKernel y = pair(Code.sendWith(0, 1, 3), Code.receive(0, 4, 5));
        y.step(1);
        due("given while it sends", y.give(0, 3, 2, 0, 5), true);
        y.step(1);
        due("passed all the same", y.capability(1, 5, 2), 5);
        due("register 7", y.register(1, 7), 1);
    }

    private static void due(String what, boolean got, boolean want) {
        CHECK.due(what, got, want);
    }

    /** Thread 1 gets a console from thread 0 and sends it on; thread 0 takes it back while it waits. */
    private static GrantKernel takenBackWhileSending() {
        GrantKernel x = new GrantKernel(8);
        Code.start(x, 0, Code.sendWith(0, 1, 3), Code.revoke(3), Code.YIELD, Code.go(2));
        Code.start(x, 10, Code.receive(0, 4, 5), Code.sendWith(1, 4, 5), Code.HALT);
        Code.start(x, 20, Code.YIELD, Code.YIELD, Code.receive(0, 4, 6), Code.HALT);
        x.give(0, 0, 1, 0, 5);
        x.give(0, 3, 2, 0, 7);
        x.give(1, 0, 1, 0, 2);
        x.give(1, 1, 1, 1, 5);
        x.give(2, 0, 1, 1, 2);
        x.put(0, 1, 40);
        x.put(2, 7, 9);
        x.step(4);
        due("it came", x.capability(1, 5, 3), 3);
        due("it waits to be sent on", x.inRow(1, 0), 1);
        x.step(1);
        due("it was taken back", x.capability(1, 5, 0), -1);
        due("the thread sends on", x.state(1), 2);
        return x;
    }

    private static void grantOfWhatIsThereThen() {
        GrantKernel x = takenBackWhileSending();
        x.step(20);
        due("the word came", x.register(2, 4), 40);
        due("nothing with it", x.register(2, 7), 0);
        due("an empty slot", x.capability(2, 6, 0), -1);
        due("the sender is done", x.state(1), 6);
        GrantKernel y = takenBackWhileSending();
        due("another one in its place", y.give(1, 5, 1, 3, 0), true);
        y.step(20);
        due("the other one came", y.capability(2, 6, 1), 3);
        due("its rights", y.capability(2, 6, 2), 0);
        due("its parent", y.capability(2, 6, 3), 13);
        due("told so", y.register(2, 7), 1);
    }

    private static void wordIntoRegisterSeven() {
        GrantKernel x = pair(Code.send(0, 1), Code.receive(0, 7, 5));
        x.put(0, 1, 31);
        x.step(2);
        due("register 7 tells of the grant", x.register(1, 7), 0);
        GrantKernel y = pair(Code.sendWith(0, 1, 0), Code.receive(0, 7, 5));
        y.put(0, 1, 31);
        y.step(2);
        due("register 7 tells of the grant made", y.register(1, 7), 1);
        GrantKernel z = pair(Code.send(0, 7), Code.receive(0, 4, 5));
        z.put(0, 7, 31);
        z.step(2);
        due("a sender's register 7 stays", z.register(0, 7), 31);
    }

    /** The sender's own endpoint goes while it waits: the word and the grant come all the same. */
    private static void revokedEndpointStillPasses() {
        GrantKernel x = new GrantKernel(8);
        Code.start(x, 0, Code.sendWith(0, 1, 3), Code.revoke(3), Code.receive(3, 4, 5), Code.HALT);
        Code.start(x, 10, Code.receive(0, 4, 5), Code.callWith(5, 4, 0), Code.HALT);
        x.give(0, 0, 1, 0, 5);
        x.give(0, 3, 1, 2, 7);
        x.give(1, 0, 1, 0, 2);
        x.put(0, 1, 40);
        x.step(4);
        due("sending by what it got", x.inRow(2, 0), 1);
        due("its capability is gone", x.capability(1, 5, 0), -1);
        x.step(1);
        due("the word came", x.register(0, 4), 40);
        due("the grant came", x.capability(0, 5, 3), 8);
        due("the caller came", x.caller(0), 1);
    }
}
