/** Promise 8 with the terms, sentence by sentence: PRINT, SEND, CALL, RECEIVE, ANSWER and how a word is passed. */
public final class PassingEdgesTest {
    private static final int LEAST_N = -(1 << 17);
    private static final int MOST_N = (1 << 17) - 1;
    private static final Check CHECK = new Check("PassingEdgesTest");

    public static void main(String[] args) {
        neededForPrint();
        neededForSendAndCall();
        neededForReceive();
        send();
        call();
        receive();
        rowsOfEndpoints();
        fullRows();
        wordOfTheBeginning();
        onlyIfOdd();
        onlyWhatIsThereNow();
        onlyIntoAnEmptySlot();
        whatIsPassed();
        registerSeven();
        callers();
        answer();
        answerWithoutCaller();
        CHECK.finish();
    }

    private static void due(String what, long got, long want) {
        CHECK.due(what, got, want);
    }

    private static void stepChanges(String what, Picture.Maker maker, String want) {
        CHECK.due(what, Picture.changes(maker, x -> x.step(1)), want);
    }

    /**
     * Threads 0 and 1 are about to run these words, 2 is ready too. Both have endpoint 2 with all
     * rights in slot 0 and a console in slot 3; register r of thread t is 100 * t + r + 1.
     */
    private static GrantKernel pair(int first, int second) {
        GrantKernel x = new GrantKernel(8);
        Code.start(x, 0, first, Code.go(1));
        Code.start(x, 10, second, Code.go(1));
        Code.start(x, 20, Code.go(0));
        for (int t = 0; t < 3; t++) {
            for (int r = 0; r < 8; r++) {
                x.put(t, r, 100 * t + r + 1);
            }
        }
        for (int t = 0; t < 2; t++) {
            x.give(t, 0, 1, 2, 7);
            x.give(t, 3, 2, 0, 5);
        }
        return x;
    }

    /** The pair, thread 0 having run its first word. */
    private static GrantKernel after(int first, int second) {
        GrantKernel x = pair(first, second);
        x.step(1);
        return x;
    }

    /** Thread 0 with one capability in slot A, or with none when the kind is 0; 1 is ready too. */
    private static GrantKernel by(int word, int slot, int kind, int object, int rights) {
        GrantKernel x = new GrantKernel(8);
        Code.start(x, 0, word);
        Code.start(x, 10, Code.go(0));
        x.put(0, 1, 66);
        if (kind != 0) {
            x.give(0, slot, kind, object, rights);
        }
        return x;
    }

    private static final String FAULT_4 = "state 0: 1 -> 5; fault 0: 0 -> 4; row: [0 1] -> [1]";

    private static void needs(int op, int n, int kind, int rights, String good) {
        for (int slot : new int[] {0, 3, 7}) {
            int word = Code.word(op, slot, 1, 2, n);
            for (int k = 0; k <= 2; k++) {
                for (int held = 0; held <= 7; held++) {
                    int givenKind = k;
                    int givenRights = held;
                    boolean enough = k == kind && (held & rights) == rights;
                    stepChanges("op " + op + " N " + n + " by slot " + slot + " of kind " + k + " with rights " + held,
                        () -> by(word, slot, givenKind, 0, givenRights), enough ? good : FAULT_4);
                }
            }
            // A capability in every other slot is of no use.
            CHECK.due("op " + op + " by empty slot " + slot, Picture.changes(() -> {
                GrantKernel x = by(word, slot, 0, 0, 0);
                for (int s = 0; s < 8; s++) {
                    if (s != slot) {
                        x.give(0, s, kind, 0, 7);
                    }
                }
                return x;
            }, x -> x.step(1)), FAULT_4);
        }
    }

    private static void neededForPrint() {
        CHECK.says("14: PRINT b by slot A, a console with SEND: b comes to the end of what was printed");
        for (int n : new int[] {0, 1, LEAST_N, MOST_N}) {
            needs(14, n, 2, 1, "counter 0: 0 -> 1; printed: 0 -> 1; print 0: 0 -> 66");
        }
    }

    private static void neededForSendAndCall() {
        String waits = "state 0: 1 -> 2; counter 0: 0 -> 1; row: [0 1] -> [1]; row of 0: [] -> [0]";
        CHECK.says("15: SEND b by slot A, an endpoint with SEND, and if N is odd with GRANT");
        for (int n : new int[] {0, 2, -2, LEAST_N, MOST_N - 1}) {
            needs(15, n, 1, 1, waits);
        }
        for (int n : new int[] {1, 3, -1, LEAST_N + 1, MOST_N}) {
            needs(15, n, 1, 5, waits);
        }
        CHECK.says("16: CALL likewise");
        for (int n : new int[] {0, 2, -2, LEAST_N, MOST_N - 1}) {
            needs(16, n, 1, 1, waits);
        }
        for (int n : new int[] {1, 3, -1, LEAST_N + 1, MOST_N}) {
            needs(16, n, 1, 5, waits);
        }
    }

    private static void neededForReceive() {
        CHECK.says("17: RECEIVE by slot A, an endpoint with RECEIVE");
        for (int n : new int[] {0, 1, -1, LEAST_N, MOST_N}) {
            needs(17, n, 1, 2, "state 0: 1 -> 4; counter 0: 0 -> 1; row: [0 1] -> [1]; row of 0: [] -> [0]");
        }
        CHECK.says("A capability that must be there in slot A and is not, or is of another kind, or lacks a right: "
            + "4 (for 15 to 17 and 14");
        // With one waiting on the other side the same holds, and that one goes on waiting.
        for (int op = 15; op <= 16; op++) {
            int word = Code.word(op, 4, 1, 3, 1);
            stepChanges("op " + op + " to one that receives, by an empty slot", () -> after(Code.receive(0, 4, 5), word),
                "state 1: 1 -> 5; fault 1: 0 -> 4; row: [1 2] -> [2]");
            stepChanges("op " + op + " to one that receives, without GRANT", () -> {
                GrantKernel x = after(Code.receive(0, 4, 5), word);
                x.give(1, 4, 1, 2, 3);
                return x;
            }, "state 1: 1 -> 5; fault 1: 0 -> 4; row: [1 2] -> [2]");
        }
        stepChanges("receive from one that sends, without RECEIVE", () -> {
            GrantKernel x = after(Code.sendWith(0, 1, 3), Code.receive(4, 4, 5));
            x.give(1, 4, 1, 2, 5);
            return x;
        }, "state 1: 1 -> 5; fault 1: 0 -> 4; row: [1 2] -> [2]");
    }

    private static void send() {
        CHECK.says("SEND, at endpoint e: if a thread is receiving there, the first of e's row leaves it, and the "
            + "word is PASSED to it; it is ready");
        stepChanges("a send to one that receives", () -> after(Code.receive(0, 4, 5), Code.send(0, 1)),
            "state 0: 4 -> 1; register 0.4: 5 -> 102; register 0.7: 8 -> 0; counter 1: 0 -> 1"
                + "; row: [1 2] -> [1 2 0]; row of 2: [0] -> []");
        CHECK.says("Otherwise the thread is sending, at the end of e's row");
        stepChanges("a send to nobody", () -> pair(Code.send(0, 1), Code.HALT),
            "state 0: 1 -> 2; counter 0: 0 -> 1; row: [0 1 2] -> [1 2]; row of 2: [] -> [0]");
        stepChanges("a send where one sends", () -> after(Code.send(0, 1), Code.send(0, 1)),
            "state 1: 1 -> 2; counter 1: 0 -> 1; row: [1 2] -> [2]; row of 2: [0] -> [0 1]");
        stepChanges("a send where one receives elsewhere", () -> {
            GrantKernel x = after(Code.receive(0, 4, 5), Code.send(1, 1));
            x.give(1, 1, 1, 3, 1);
            return x;
        }, "state 1: 1 -> 2; counter 1: 0 -> 1; row: [1 2] -> [2]; row of 3: [] -> [1]");
    }

    private static void call() {
        CHECK.says("CALL is the same, but the thread is answered later once its word is passed");
        stepChanges("a call to one that receives", () -> after(Code.receive(0, 4, 5), Code.call(0, 1)),
            "state 0: 4 -> 1; caller 0: -1 -> 1; register 0.4: 5 -> 102; register 0.7: 8 -> 0"
                + "; state 1: 1 -> 3; counter 1: 0 -> 1; row: [1 2] -> [2 0]; row of 2: [0] -> []");
        stepChanges("a call to nobody", () -> pair(Code.call(0, 1), Code.HALT),
            "state 0: 1 -> 2; counter 0: 0 -> 1; row: [0 1 2] -> [1 2]; row of 2: [] -> [0]");
        stepChanges("a call where one calls", () -> after(Code.call(0, 1), Code.call(0, 1)),
            "state 1: 1 -> 2; counter 1: 0 -> 1; row: [1 2] -> [2]; row of 2: [0] -> [0 1]");
    }

    private static void receive() {
        CHECK.says("RECEIVE: if a thread is sending at e, the first of the row leaves it and its word is passed to "
            + "this thread; the sender is ready, or, if it called, answered later");
        stepChanges("from one that sends", () -> after(Code.send(0, 1), Code.receive(0, 4, 5)),
            "state 0: 2 -> 1; counter 1: 0 -> 1; register 1.4: 105 -> 2; register 1.7: 108 -> 0"
                + "; row: [1 2] -> [1 2 0]; row of 2: [0] -> []");
        stepChanges("from one that calls", () -> after(Code.call(0, 1), Code.receive(0, 4, 5)),
            "state 0: 2 -> 3; counter 1: 0 -> 1; caller 1: -1 -> 0; register 1.4: 105 -> 2; register 1.7: 108 -> 0"
                + "; row of 2: [0] -> []");
        CHECK.says("Otherwise the thread is receiving, at the end of e's row");
        stepChanges("from nobody", () -> pair(Code.receive(0, 4, 5), Code.HALT),
            "state 0: 1 -> 4; counter 0: 0 -> 1; row: [0 1 2] -> [1 2]; row of 2: [] -> [0]");
        stepChanges("where one receives", () -> after(Code.receive(0, 4, 5), Code.receive(0, 4, 5)),
            "state 1: 1 -> 4; counter 1: 0 -> 1; row: [1 2] -> [2]; row of 2: [0] -> [0 1]");
        stepChanges("where one sends elsewhere", () -> {
            GrantKernel x = after(Code.send(0, 1), Code.receive(1, 4, 5));
            x.give(1, 1, 1, 1, 2);
            return x;
        }, "state 1: 1 -> 4; counter 1: 0 -> 1; row: [1 2] -> [2]; row of 1: [] -> [1]");
    }

    /** Threads 0 to 4 wait at endpoint 3 by the first word; 5 meets them there, one after the other, by the second. */
    private static GrantKernel five(int waiting, int meeting) {
        GrantKernel x = new GrantKernel(8);
        x.poke(0, waiting);
        x.poke(1, Code.go(1));
        x.poke(10, meeting);
        x.poke(11, Code.go(0));
        for (int t = 0; t < 6; t++) {
            x.spawn(0, t < 5 ? 0 : 10, 2);
            x.give(t, 0, 1, 3, 3);
            x.put(t, 1, 50 + t);
        }
        x.step(5);
        return x;
    }

    private static void rowsOfEndpoints() {
        CHECK.says("each has a row of the threads that are sending or receiving there (never both), the one that "
            + "has waited longest first");
        GrantKernel senders = five(Code.send(0, 1), Code.receive(0, 2, 2));
        GrantKernel callers = five(Code.call(0, 1), Code.receive(0, 2, 2));
        GrantKernel receivers = five(Code.receive(0, 2, 2), Code.send(0, 1));
        String[] left = {"[0 1 2 3 4]", "[1 2 3 4]", "[2 3 4]", "[3 4]", "[4]", "[]"};
        for (int k = 0; k < 5; k++) {
            CHECK.due("senders", Picture.row(senders, 3), left[k]);
            CHECK.due("callers", Picture.row(callers, 3), left[k]);
            CHECK.due("receivers", Picture.row(receivers, 3), left[k]);
            untilCounter1(senders);
            untilCounter1(callers);
            untilCounter1(receivers);
            due("word of sender " + k, senders.register(5, 2), 50 + k);
            due("word of caller " + k, callers.register(5, 2), 50 + k);
            due("caller " + k, callers.caller(5), k);
            due("word at receiver " + k, receivers.register(k, 2), 55);
            CHECK.due("senders left", Picture.row(senders, 3), left[k + 1]);
            CHECK.due("callers left", Picture.row(callers, 3), left[k + 1]);
            CHECK.due("receivers left", Picture.row(receivers, 3), left[k + 1]);
        }
        untilWaiting(senders);
        due("then it receives itself", senders.state(5), 4);
        CHECK.due("in the row of its endpoint", Picture.row(senders, 3), "[5]");
        untilWaiting(receivers);
        due("then it sends itself", receivers.state(5), 2);
        CHECK.due("in that row", Picture.row(receivers, 3), "[5]");
    }

    // Thread 5 goes back from its second word, and then meets the next one.
    private static void untilCounter1(GrantKernel x) {
        for (int i = 0; i < 60 && x.counter(5) == 1; i++) {
            x.step(1);
        }
        for (int i = 0; i < 60 && x.counter(5) == 0; i++) {
            x.step(1);
        }
    }

    private static void untilWaiting(GrantKernel x) {
        for (int i = 0; i < 60 && x.state(5) == 1; i++) {
            x.step(1);
        }
    }

    private static void fullRows() {
        CHECK.says("ENDPOINTS are 0 .. 3");
        int[] waits = {Code.send(0, 1), Code.call(0, 1), Code.receive(0, 1, 1)};
        int[] states = {2, 2, 4};
        for (int w = 0; w < 3; w++) {
            for (int e = 0; e < 4; e++) {
                GrantKernel x = new GrantKernel(1);
                x.poke(0, waits[w]);
                for (int t = 0; t < 6; t++) {
                    x.spawn(0, 0, 1);
                    x.give(t, 0, 1, e, 7);
                }
                due("all wait", x.step(50), 6);
                CHECK.due("the row of " + e + " is full", Picture.row(x, e), "[0 1 2 3 4 5]");
                CHECK.due("the row is empty", Picture.row(x, -1), "[]");
                for (int t = 0; t < 6; t++) {
                    due("state of " + t, x.state(t), states[w]);
                }
                due("nothing goes on", x.step(50), 0);
            }
        }
    }

    private static void wordOfTheBeginning() {
        CHECK.says("r's register B of its RECEIVE becomes the word (b of the SEND or CALL when that was begun)");
        for (int op = 15; op <= 16; op++) {
            for (int from = 0; from < 8; from++) {
                for (int to = 0; to < 7; to++) {
                    GrantKernel x = after(Code.word(op, 0, from, 0, 0), Code.receive(0, to, 5));
                    x.put(0, from, -4);
                    x.poke(0, Code.send(0, (from + 1) & 7));
                    x.step(1);
                    due("waited, from " + from + " to " + to, x.register(1, to), from + 1);
                    due("the sender's register stays as put", x.register(0, from), -4);
                    GrantKernel y = after(Code.receive(0, to, 5), Code.word(op, 0, from, 0, 0));
                    y.poke(0, Code.receive(0, (to + 1) & 7, 5));
                    y.step(1);
                    due("at once, from " + from + " to " + to, y.register(0, to), 100 + from + 1);
                    due("the sender's own register", y.register(1, from), 100 + from + 1);
                }
            }
        }
    }

    private static final String PASSED = "(2 0 5 3)";

    private static void onlyIfOdd() {
        CHECK.says("If N was odd there");
        for (int n : new int[] {0, 1, 2, 3, -1, -2, -3, LEAST_N, LEAST_N + 1, MOST_N - 1, MOST_N}) {
            boolean odd = n % 2 != 0;
            for (int op = 15; op <= 16; op++) {
                GrantKernel waited = after(Code.word(op, 0, 1, 3, n), Code.word(17, 0, 4, 5, 1 - n & 1));
                waited.step(1);
                CHECK.due("waited, N " + n, Picture.capability(waited, 1, 5), odd ? PASSED : "empty");
                due("waited, N " + n + ": register 7", waited.register(1, 7), odd ? 1 : 0);
                GrantKernel atOnce = after(Code.word(17, 0, 4, 5, 1 - n & 1), Code.word(op, 0, 1, 3, n));
                atOnce.step(1);
                CHECK.due("at once, N " + n, Picture.capability(atOnce, 0, 5), odd ? "(2 0 5 11)" : "empty");
                due("at once, N " + n + ": register 7", atOnce.register(0, 7), odd ? 1 : 0);
            }
        }
    }

    private static void onlyWhatIsThereNow() {
        CHECK.says("and s has now a capability in the slot C of its SEND or CALL");
        stepChanges("there is none", () -> after(Code.sendWith(0, 1, 6), Code.receive(0, 4, 5)),
            "state 0: 2 -> 1; counter 1: 0 -> 1; register 1.4: 105 -> 2; register 1.7: 108 -> 0"
                + "; row: [1 2] -> [1 2 0]; row of 2: [0] -> []");
        stepChanges("there is none, at once", () -> after(Code.receive(0, 4, 5), Code.sendWith(0, 1, 6)),
            "state 0: 4 -> 1; register 0.4: 5 -> 102; register 0.7: 8 -> 0; counter 1: 0 -> 1"
                + "; row: [1 2] -> [1 2 0]; row of 2: [0] -> []");
        GrantKernel came = after(Code.sendWith(0, 1, 6), Code.receive(0, 4, 5));
        came.give(0, 6, 1, 1, 0);
        came.poke(0, Code.send(0, 1));
        came.step(1);
        CHECK.due("it came while the thread was sending", Picture.capability(came, 1, 5), "(1 1 0 6)");
        due("and that is told", came.register(1, 7), 1);
        goneMeanwhile();
    }

    /** Thread 1 sends on what thread 0 granted to it; thread 0 revokes it before thread 2 receives. */
    private static void goneMeanwhile() {
        GrantKernel x = new GrantKernel(8);
        Code.start(x, 0, Code.sendWith(0, 1, 3), Code.revoke(3), Code.YIELD, Code.go(2));
        Code.start(x, 10, Code.receive(0, 4, 5), Code.sendWith(1, 4, 5), Code.HALT);
        Code.start(x, 20, Code.YIELD, Code.YIELD, Code.receive(0, 4, 6), Code.HALT);
        x.give(0, 0, 1, 0, 5);
        x.give(0, 3, 2, 0, 7);
        x.give(1, 0, 1, 0, 2);
        x.give(1, 1, 1, 1, 5);
        x.give(2, 0, 1, 1, 2);
        x.put(0, 1, 40);
        x.put(2, 7, 9);
        x.step(4);
        CHECK.due("it was there when the thread began", Picture.capability(x, 1, 5), "(2 0 7 3)");
        CHECK.due("the thread is sending", Picture.row(x, 1), "[1]");
        x.step(1);
        CHECK.due("it is gone", Picture.capability(x, 1, 5), "empty");
        x.step(20);
        due("the word is passed", x.register(2, 4), 40);
        due("without it", x.register(2, 7), 0);
        CHECK.due("the slot stays empty", Picture.capability(x, 2, 6), "empty");
    }

    private static void onlyIntoAnEmptySlot() {
        CHECK.says("and the slot C of r's RECEIVE is empty");
        for (int op = 15; op <= 16; op++) {
            int send = Code.word(op, 0, 1, 3, 1);
            // Slot 0 of the one that receives has its endpoint, slot 3 a console.
            for (int s = 0; s < 8; s++) {
                boolean taken = s == 0 || s == 3;
                GrantKernel x = after(send, Code.receive(0, 4, s));
                String before = Picture.capability(x, 1, s);
                x.step(1);
                CHECK.due("waited, into slot " + s, Picture.capability(x, 1, s), taken ? before : PASSED);
                due("waited, into slot " + s + ": register 7", x.register(1, 7), taken ? 0 : 1);
                due("waited, into slot " + s + ": the word", x.register(1, 4), 2);
                due("waited, below it", x.descendants(0, 3), taken ? 0 : 1);
                GrantKernel y = after(Code.receive(0, 4, s), send);
                before = Picture.capability(y, 0, s);
                y.step(1);
                CHECK.due("at once, into slot " + s, Picture.capability(y, 0, s), taken ? before : "(2 0 5 11)");
                due("at once, into slot " + s + ": register 7", y.register(0, 7), taken ? 0 : 1);
            }
            GrantKernel filled = after(Code.receive(0, 4, 5), send);
            filled.give(0, 5, 1, 1, 1);
            filled.step(1);
            CHECK.due("filled while it was receiving", Picture.capability(filled, 0, 5), "(1 1 1 -1)");
            due("and nothing came", filled.register(0, 7), 0);
            GrantKernel changed = after(Code.receive(0, 4, 5), send);
            changed.poke(0, Code.receive(0, 4, 6));
            changed.step(1);
            CHECK.due("the slot of the RECEIVE as it was begun", Picture.capability(changed, 0, 5), "(2 0 5 11)");
            CHECK.due("and not another one", Picture.capability(changed, 0, 6), "empty");
        }
    }

    private static void whatIsPassed() {
        CHECK.says("that slot gets a capability of the same kind, object and rights, with that of s as its parent");
        for (int rights = 0; rights < 8; rights++) {
            for (int object = 0; object < 4; object++) {
                GrantKernel x = after(Code.sendWith(0, 1, 7), Code.receive(0, 4, 7));
                x.give(0, 7, 1, object, rights);
                x.step(1);
                CHECK.due("an endpoint", Picture.capability(x, 1, 7), "(1 " + object + " " + rights + " 7)");
            }
            GrantKernel x = after(Code.receive(0, 4, 1), Code.sendWith(0, 1, 7));
            x.give(1, 7, 2, 0, rights);
            x.step(1);
            CHECK.due("a console", Picture.capability(x, 0, 1), "(2 0 " + rights + " 15)");
        }
        stepChanges("the very endpoint", () -> after(Code.sendWith(0, 1, 0), Code.receive(0, 4, 7)),
            "state 0: 2 -> 1; counter 1: 0 -> 1; register 1.4: 105 -> 2; register 1.7: 108 -> 1"
                + "; row: [1 2] -> [1 2 0]; row of 2: [0] -> []"
                + "; below 0.0: 0 -> 1; slot 1.7: empty -> (1 2 7 0); below 1.7: -1 -> 0");
    }

    private static void registerSeven() {
        CHECK.says("Then r's register 7 becomes 1 if it got one, else 0");
        for (int n = 0; n < 2; n++) {
            GrantKernel x = after(Code.word(15, 0, 1, 3, n), Code.receive(0, 7, 5));
            x.step(1);
            due("the word went there too", x.register(1, 7), n);
            GrantKernel y = after(Code.receive(0, 7, 5), Code.word(16, 0, 1, 3, n));
            y.step(1);
            due("the word of a call went there too", y.register(0, 7), n);
            due("the caller's own stays", y.register(1, 7), 108);
        }
        GrantKernel waits = after(Code.receive(0, 4, 5), Code.go(0));
        waits.step(9);
        due("nothing before a word comes", waits.register(0, 7), 8);
    }

    /** Threads 0 and 1 wait by these words, and 2 receives twice and then answers twice. */
    private static GrantKernel twice(int first, int second) {
        GrantKernel x = new GrantKernel(8);
        Code.start(x, 0, first, Code.go(1));
        Code.start(x, 10, second, Code.go(1));
        Code.start(x, 20, Code.receive(0, 4, 5), Code.receive(0, 4, 5), Code.answer(6), Code.answer(6), Code.HALT);
        for (int t = 0; t < 3; t++) {
            x.give(t, 0, 1, 2, 7);
        }
        x.put(2, 6, 77);
        x.step(4);
        return x;
    }

    private static void callers() {
        CHECK.says("If s called, it becomes r's caller");
        due("a call and a send", twice(Code.call(0, 1), Code.send(0, 1)).caller(2), 0);
        due("a send and a call", twice(Code.send(0, 1), Code.call(0, 1)).caller(2), 1);
        due("a send and a send", twice(Code.send(0, 1), Code.send(0, 1)).caller(2), -1);
        CHECK.says("(in place of another one, which then is answered by nobody)");
        GrantKernel x = twice(Code.call(0, 1), Code.call(0, 1));
        due("the later one", x.caller(2), 1);
        x.step(1);
        due("the later one is answered", x.register(1, 1), 77);
        due("and ready", x.state(1), 1);
        due("no caller any more", x.caller(2), -1);
        x.step(50);
        due("the one before is not", x.register(0, 1), 0);
        due("and waits on", x.state(0), 3);
        due("the other has halted", x.state(2), 6);
        x.reap(2);
        due("and waits on when that one is free", x.state(0), 3);
        Code.start(x, 20, Code.answer(6), Code.HALT);
        x.step(50);
        due("a new thread has no caller", x.state(0), 3);
    }

    private static void answer() {
        CHECK.says("if the thread has a caller, that one's register B of its own CALL becomes b, and it is ready; "
            + "the thread has no caller any more");
        for (int own = 0; own < 8; own++) {
            for (int b = 0; b < 7; b++) {
                int register = own;
                int other = b;
                int word = b == 4 ? own + 1 : 100 + b + 1;
                Picture.Maker waited = () -> {
                    GrantKernel x = after(Code.call(0, register), Code.receive(0, 4, 5));
                    x.step(1);
                    x.poke(0, Code.call(0, (register + 1) & 7));
                    x.put(0, register, -8);
                    x.poke(11, Code.word(18, 7, other, 7, -1));
                    return x;
                };
                stepChanges("answer " + b + " into " + own, waited,
                    "state 0: 3 -> 1; register 0." + own + ": -8 -> " + word + "; counter 1: 1 -> 2; caller 1: 0 -> -1"
                        + "; row: [1 2] -> [1 2 0]");
            }
        }
        GrantKernel last = new GrantKernel(8);
        Code.start(last, 0, Code.receive(0, 4, 5), Code.answer(4), Code.HALT);
        for (int t = 1; t < 5; t++) {
            Code.start(last, 10, Code.HALT);
        }
        Code.start(last, 20, Code.call(0, 1), Code.HALT);
        last.give(0, 0, 1, 0, 2);
        last.give(5, 0, 1, 0, 1);
        last.put(5, 1, 6);
        last.step(6);
        due("the last thread called", last.caller(0), 5);
        due("it is answered later", last.state(5), 3);
        last.step(1);
        due("it is answered", last.state(5), 1);
    }

    private static void answerWithoutCaller() {
        CHECK.says("Without a caller nothing happens");
        stepChanges("none ever", () -> pair(Code.word(18, 3, 1, 3, 1), Code.HALT), "counter 0: 0 -> 1");
        stepChanges("none, while another thread is called", () -> {
            GrantKernel x = after(Code.receive(0, 4, 5), Code.call(0, 1));
            x.step(1);
            x.poke(20, Code.answer(1));
            return x;
        }, "counter 2: 0 -> 1");
        stepChanges("none any more", () -> {
            GrantKernel x = twice(Code.send(0, 1), Code.call(0, 1));
            x.step(1);
            return x;
        }, "counter 2: 3 -> 4");
    }
}
