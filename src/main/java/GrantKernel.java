/**
 * A small kernel: threads that run instructions out of their own pieces of memory, pass words and
 * capabilities to one another at endpoints, and can take back whatever was derived from a
 * capability of theirs.
 */
public final class GrantKernel {
    public static final int NONE = -1;

    private static final int WORDS = 128;
    private static final int THREADS = 6;
    private static final int REGISTERS = 8;
    private static final int SLOTS = 8;
    private static final int PLACES = THREADS * SLOTS;
    private static final int ENDPOINTS = 4;
    private static final int KEPT_PRINTS = 16;
    private static final int LEAST_QUANTUM = 1;
    private static final int MOST_QUANTUM = 8;
    private static final int MOST_STEPS = 50;
    private static final int GRANT_REGISTER = 7;

    private static final int FREE = 0;
    private static final int READY = 1;
    private static final int SENDING = 2;
    private static final int ANSWERED_LATER = 3;
    private static final int RECEIVING = 4;
    private static final int FAULTED = 5;
    private static final int HALTED = 6;

    private static final int NO_FAULT = 0;
    private static final int BAD_COUNTER = 1;
    private static final int BAD_ADDRESS = 2;
    private static final int BAD_OP = 3;
    private static final int BAD_CAPABILITY = 4;
    private static final int SLOT_TAKEN = 5;

    private static final int EMPTY = 0;
    private static final int ENDPOINT = 1;
    private static final int CONSOLE = 2;

    private static final int RIGHT_SEND = 1;
    private static final int RIGHT_RECEIVE = 2;
    private static final int RIGHT_GRANT = 4;
    private static final int ALL_RIGHTS = 7;

    private static final int OP_HALT = 0;
    private static final int OP_SET = 1;
    private static final int OP_COPY = 2;
    private static final int OP_ADD = 3;
    private static final int OP_SUBTRACT = 4;
    private static final int OP_MULTIPLY = 5;
    private static final int OP_AND = 6;
    private static final int OP_XOR = 7;
    private static final int OP_LOAD = 8;
    private static final int OP_STORE = 9;
    private static final int OP_GO = 10;
    private static final int OP_GO_IF_ZERO = 11;
    private static final int OP_GO_IF_BELOW = 12;
    private static final int OP_YIELD = 13;
    private static final int OP_PRINT = 14;
    private static final int OP_SEND = 15;
    private static final int OP_CALL = 16;
    private static final int OP_RECEIVE = 17;
    private static final int OP_ANSWER = 18;
    private static final int OP_MINT = 19;
    private static final int OP_REMOVE = 20;
    private static final int OP_REVOKE = 21;
    private static final int OP_HAS = 22;

    private final int quantum;
    private final int[] memory = new int[WORDS];
    private final Task[] tasks = new Task[THREADS];
    private final Line readyLine = new Line();
    private final Line[] endpointLines = new Line[ENDPOINTS];
    private final Grants grants = new Grants();
    private final Tape tape = new Tape();
    private int ranInARow;

    public GrantKernel(int quantum) {
        this.quantum = Math.max(LEAST_QUANTUM, Math.min(MOST_QUANTUM, quantum));
        for (int t = 0; t < THREADS; t++) {
            tasks[t] = new Task();
        }
        for (int e = 0; e < ENDPOINTS; e++) {
            endpointLines[e] = new Line();
        }
    }

    public boolean poke(int a, int v) {
        if (!isBetween(a, 0, WORDS - 1)) {
            return false;
        }
        memory[a] = v;
        return true;
    }

    public int peek(int a) {
        return isBetween(a, 0, WORDS - 1) ? memory[a] : 0;
    }

    public int spawn(int counter, int base, int length) {
        // The bounds come one by one, so that base + length can't wrap.
        boolean fits = isBetween(base, 0, WORDS) && isBetween(length, 0, WORDS - base);
        int t = fits ? leastFree() : NONE;
        if (t == NONE) {
            return NONE;
        }
        tasks[t].begin(counter, base, length);
        makeReady(t);
        return t;
    }

    public boolean put(int t, int r, int v) {
        Task task = usedTask(t);
        if (task == null || !isBetween(r, 0, REGISTERS - 1)) {
            return false;
        }
        task.registers[r] = v;
        return true;
    }

    public boolean give(int t, int s, int kind, int object, int rights) {
        int place = placeOf(t, s);
        if (place == NONE || usedTask(t) == null || grants.holds(place)) {
            return false;
        }
        if (!isObjectOfKind(kind, object) || !isBetween(rights, 0, ALL_RIGHTS)) {
            return false;
        }
        grants.fill(place, kind, object, rights, NONE);
        return true;
    }

    public boolean reap(int t) {
        Task task = usedTask(t);
        if (task == null || (task.state != HALTED && task.state != FAULTED)) {
            return false;
        }
        task.end();
        for (int s = 0; s < SLOTS; s++) {
            grants.removeAt(slotPlace(t, s));
        }
        return true;
    }

    public int step(int n) {
        if (!isBetween(n, 1, MOST_STEPS)) {
            return NONE;
        }
        int made = 0;
        while (made < n && readyLine.at(0) != NONE) {
            runFirst(readyLine.at(0));
            made++;
        }
        return made;
    }

    public int state(int t) {
        return isBetween(t, 0, THREADS - 1) ? tasks[t].state : NONE;
    }

    public int fault(int t) {
        Task task = usedTask(t);
        return task == null ? NO_FAULT : task.fault;
    }

    public int register(int t, int r) {
        Task task = usedTask(t);
        return task == null || !isBetween(r, 0, REGISTERS - 1) ? 0 : task.registers[r];
    }

    public int counter(int t) {
        Task task = usedTask(t);
        return task == null ? NONE : task.counter;
    }

    public int caller(int t) {
        Task task = usedTask(t);
        return task == null ? NONE : task.caller;
    }

    public int capability(int t, int s, int part) {
        int place = placeOf(t, s);
        return place == NONE || !grants.holds(place) ? NONE : grants.partOf(place, part);
    }

    public int descendants(int t, int s) {
        int place = placeOf(t, s);
        return place == NONE || !grants.holds(place) ? NONE : grants.countBelow(place);
    }

    public int inRow(int e, int k) {
        if (e == -1) {
            return readyLine.at(k);
        }
        return isBetween(e, 0, ENDPOINTS - 1) ? endpointLines[e].at(k) : NONE;
    }

    public int printed() {
        return tape.count();
    }

    public int print(int k) {
        return tape.backFromLatest(k);
    }

    private static boolean isBetween(int x, int least, int most) {
        return x >= least && x <= most;
    }

    private static boolean isObjectOfKind(int kind, int object) {
        if (kind == ENDPOINT) {
            return isBetween(object, 0, ENDPOINTS - 1);
        }
        return kind == CONSOLE && object == 0;
    }

    /** The place of slot s of thread t, NONE when there is no such thread or slot. */
    private static int placeOf(int t, int s) {
        boolean there = isBetween(t, 0, THREADS - 1) && isBetween(s, 0, SLOTS - 1);
        return there ? slotPlace(t, s) : NONE;
    }

    // A place is numbered as the document numbers a parent: 8 * thread + slot.
    private static int slotPlace(int t, int s) {
        return SLOTS * t + s;
    }

    private static int opOf(int w) {
        return w & 31;
    }

    private static int fieldA(int w) {
        return w >> 5 & 7;
    }

    private static int fieldB(int w) {
        return w >> 8 & 7;
    }

    private static int fieldC(int w) {
        return w >> 11 & 7;
    }

    private static int numberOf(int w) {
        return w >> 14;
    }

    private static boolean isNumberOdd(int w) {
        return (numberOf(w) & 1) != 0;
    }

    private Task usedTask(int t) {
        return isBetween(t, 0, THREADS - 1) && tasks[t].state != FREE ? tasks[t] : null;
    }

    private int leastFree() {
        for (int t = 0; t < THREADS; t++) {
            if (tasks[t].state == FREE) {
                return t;
            }
        }
        return NONE;
    }

    private void makeReady(int t) {
        tasks[t].state = READY;
        readyLine.append(t);
    }

    private void runFirst(int t) {
        Task me = tasks[t];
        boolean yields = false;
        if (!me.isGood(me.counter)) {
            me.fail(BAD_COUNTER);
        } else {
            int w = memory[me.base + me.counter];
            int found = perform(t, w);
            if (found == NO_FAULT) {
                me.counter = counterAfter(me, w);
                yields = opOf(w) == OP_YIELD;
            } else {
                me.fail(found);
            }
        }
        settleFirst(t, yields);
    }

    private void settleFirst(int t, boolean yields) {
        ranInARow++;
        boolean stays = tasks[t].state == READY;
        if (stays && !yields && ranInARow < quantum) {
            return;
        }
        readyLine.takeFirst();
        if (stays) {
            readyLine.append(t);
        }
        ranInARow = 0;
    }

    // The instructions that go change no register, so this may look at them afterwards.
    private static int counterAfter(Task me, int w) {
        int a = me.registers[fieldA(w)];
        int op = opOf(w);
        boolean goes = op == OP_GO
            || (op == OP_GO_IF_ZERO && a == 0)
            || (op == OP_GO_IF_BELOW && a < 0);
        return goes ? numberOf(w) : me.counter + 1;
    }

    /** Does what instruction w does, but for counter and row. Answers its fault, with nothing done. */
    private int perform(int t, int w) {
        switch (opOf(w)) {
            case OP_LOAD:
            case OP_STORE:
                return access(tasks[t], w);
            case OP_PRINT:
                return printBy(t, w);
            case OP_SEND:
            case OP_CALL:
                return sendBy(t, w);
            case OP_RECEIVE:
                return receiveBy(t, w);
            case OP_ANSWER:
                return answerCaller(tasks[t], w);
            case OP_MINT:
                return mintInto(t, w);
            case OP_REMOVE:
            case OP_REVOKE:
                return takeBack(t, w);
            case OP_HAS:
                return lookIntoSlot(t, w);
            default:
                return compute(tasks[t], w);
        }
    }

    private static int compute(Task me, int w) {
        int[] registers = me.registers;
        int a = fieldA(w);
        int b = registers[fieldB(w)];
        int c = registers[fieldC(w)];
        switch (opOf(w)) {
            case OP_HALT:
                me.state = HALTED;
                return NO_FAULT;
            case OP_SET:
                registers[a] = numberOf(w);
                return NO_FAULT;
            case OP_COPY:
                registers[a] = b;
                return NO_FAULT;
            case OP_ADD:
                registers[a] = b + c;
                return NO_FAULT;
            case OP_SUBTRACT:
                registers[a] = b - c;
                return NO_FAULT;
            case OP_MULTIPLY:
                registers[a] = b * c;
                return NO_FAULT;
            case OP_AND:
                registers[a] = b & c;
                return NO_FAULT;
            case OP_XOR:
                registers[a] = b ^ c;
                return NO_FAULT;
            case OP_GO:
            case OP_GO_IF_ZERO:
            case OP_GO_IF_BELOW:
            case OP_YIELD:
                return NO_FAULT;
            default:
                return BAD_OP;
        }
    }

    private int access(Task me, int w) {
        // The document takes this sum exactly, so it must not wrap.
        long address = (long) me.registers[fieldB(w)] + numberOf(w);
        if (!me.isGood(address)) {
            return BAD_ADDRESS;
        }
        int word = me.base + (int) address;
        if (opOf(w) == OP_LOAD) {
            me.registers[fieldA(w)] = memory[word];
        } else {
            memory[word] = me.registers[fieldA(w)];
        }
        return NO_FAULT;
    }

    private int printBy(int t, int w) {
        if (!grants.allows(slotPlace(t, fieldA(w)), CONSOLE, RIGHT_SEND)) {
            return BAD_CAPABILITY;
        }
        tape.append(tasks[t].registers[fieldB(w)]);
        return NO_FAULT;
    }

    /** SEND and CALL. */
    private int sendBy(int t, int w) {
        int place = slotPlace(t, fieldA(w));
        int needed = isNumberOdd(w) ? RIGHT_SEND + RIGHT_GRANT : RIGHT_SEND;
        if (!grants.allows(place, ENDPOINT, needed)) {
            return BAD_CAPABILITY;
        }
        Task me = tasks[t];
        me.request = w;
        me.word = me.registers[fieldB(w)];
        Line line = endpointLines[grants.objectAt(place)];
        int receiver = takeWaiting(line, RECEIVING);
        if (receiver == NONE) {
            me.state = SENDING;
            line.append(t);
            return NO_FAULT;
        }
        pass(t, receiver);
        makeReady(receiver);
        if (opOf(w) == OP_CALL) {
            me.state = ANSWERED_LATER;
        }
        return NO_FAULT;
    }

    private int receiveBy(int t, int w) {
        int place = slotPlace(t, fieldA(w));
        if (!grants.allows(place, ENDPOINT, RIGHT_RECEIVE)) {
            return BAD_CAPABILITY;
        }
        Task me = tasks[t];
        me.request = w;
        Line line = endpointLines[grants.objectAt(place)];
        int sender = takeWaiting(line, SENDING);
        if (sender == NONE) {
            me.state = RECEIVING;
            line.append(t);
            return NO_FAULT;
        }
        pass(sender, t);
        if (opOf(tasks[sender].request) == OP_CALL) {
            tasks[sender].state = ANSWERED_LATER;
        } else {
            makeReady(sender);
        }
        return NO_FAULT;
    }

    /** Takes the first of the line out of it if the line waits in this state, else answers NONE. */
    private int takeWaiting(Line line, int state) {
        int first = line.at(0);
        if (first == NONE || tasks[first].state != state) {
            return NONE;
        }
        line.takeFirst();
        return first;
    }

    private void pass(int sender, int receiver) {
        Task from = tasks[sender];
        Task to = tasks[receiver];
        int source = slotPlace(sender, fieldC(from.request));
        int target = slotPlace(receiver, fieldC(to.request));
        boolean granted = isNumberOdd(from.request) && grants.holds(source) && !grants.holds(target);
        if (granted) {
            grants.derive(target, source, ALL_RIGHTS);
        }
        // Register 7 comes last: it tells of the grant even when the word went there too.
        to.registers[fieldB(to.request)] = from.word;
        to.registers[GRANT_REGISTER] = granted ? 1 : 0;
        if (opOf(from.request) == OP_CALL) {
            to.caller = sender;
        }
    }

    private int answerCaller(Task me, int w) {
        int waiting = me.caller;
        if (waiting != NONE) {
            Task other = tasks[waiting];
            other.registers[fieldB(other.request)] = me.registers[fieldB(w)];
            makeReady(waiting);
            me.caller = NONE;
        }
        return NO_FAULT;
    }

    private int mintInto(int t, int w) {
        int source = slotPlace(t, fieldA(w));
        int target = slotPlace(t, fieldB(w));
        if (!grants.holds(source)) {
            return BAD_CAPABILITY;
        }
        if (grants.holds(target)) {
            return SLOT_TAKEN;
        }
        grants.derive(target, source, numberOf(w));
        return NO_FAULT;
    }

    /** The removal of a capability, and REVOKE. */
    private int takeBack(int t, int w) {
        int place = slotPlace(t, fieldA(w));
        if (!grants.holds(place)) {
            return BAD_CAPABILITY;
        }
        if (opOf(w) == OP_REMOVE) {
            grants.removeAt(place);
        } else {
            grants.revokeBelow(place);
        }
        return NO_FAULT;
    }

    private int lookIntoSlot(int t, int w) {
        tasks[t].registers[fieldA(w)] = grants.holds(slotPlace(t, fieldB(w))) ? 1 : 0;
        return NO_FAULT;
    }

    /** One thread, without its slots, which the grants hold. */
    private static final class Task {
        final int[] registers = new int[REGISTERS];
        int state = FREE;
        int fault = NO_FAULT;
        int counter;
        int base;
        int length;
        int caller = NONE;
        // The SEND, CALL or RECEIVE begun last and its word: memory and registers may change while it waits.
        int request;
        int word;

        void begin(int firstCounter, int firstWord, int words) {
            counter = firstCounter;
            base = firstWord;
            length = words;
            caller = NONE;
            for (int r = 0; r < REGISTERS; r++) {
                registers[r] = 0;
            }
        }

        void fail(int found) {
            state = FAULTED;
            fault = found;
        }

        void end() {
            state = FREE;
            fault = NO_FAULT;
        }

        boolean isGood(long address) {
            return address >= 0 && address < length;
        }
    }

    /** Threads in the order in which they came; no thread is in one line twice. */
    private static final class Line {
        private final int[] threads = new int[THREADS];
        private int size;

        int at(int k) {
            return isBetween(k, 0, size - 1) ? threads[k] : NONE;
        }

        void append(int t) {
            if (size < THREADS) {
                threads[size] = t;
                size++;
            }
        }

        void takeFirst() {
            if (size == 0) {
                return;
            }
            size--;
            for (int k = 0; k < size; k++) {
                threads[k] = threads[k + 1];
            }
        }
    }

    /** The capabilities of all threads. None ever moves, so a parent is known by its place. */
    private static final class Grants {
        private final int[] kinds = new int[PLACES];
        private final int[] objects = new int[PLACES];
        private final int[] rights = new int[PLACES];
        private final int[] parents = new int[PLACES];
        private final boolean[] doomed = new boolean[PLACES];

        boolean holds(int place) {
            return kinds[place] != EMPTY;
        }

        int objectAt(int place) {
            return objects[place];
        }

        boolean allows(int place, int kind, int needed) {
            return kinds[place] == kind && (rights[place] & needed) == needed;
        }

        int partOf(int place, int part) {
            switch (part) {
                case 0:
                    return kinds[place];
                case 1:
                    return objects[place];
                case 2:
                    return rights[place];
                case 3:
                    return parents[place];
                default:
                    return NONE;
            }
        }

        void fill(int place, int kind, int object, int allowed, int parent) {
            kinds[place] = kind;
            objects[place] = object;
            rights[place] = allowed;
            parents[place] = parent;
        }

        private void empty(int place) {
            fill(place, EMPTY, 0, 0, NONE);
        }

        /** The parent must be there, and the place empty. */
        void derive(int place, int parent, int mask) {
            fill(place, kinds[parent], objects[parent], rights[parent] & mask, parent);
        }

        void removeAt(int place) {
            if (!holds(place)) {
                return;
            }
            for (int child = 0; child < PLACES; child++) {
                if (holds(child) && parents[child] == place) {
                    parents[child] = parents[place];
                }
            }
            empty(place);
        }

        int countBelow(int place) {
            int count = 0;
            for (int other = 0; other < PLACES; other++) {
                if (isBelow(other, place)) {
                    count++;
                }
            }
            return count;
        }

        void revokeBelow(int place) {
            // All are found before any goes: the way up to the place leads through those that go.
            for (int other = 0; other < PLACES; other++) {
                doomed[other] = isBelow(other, place);
            }
            for (int other = 0; other < PLACES; other++) {
                if (doomed[other]) {
                    empty(other);
                }
            }
        }

        private boolean isBelow(int place, int ancestor) {
            int above = holds(place) ? parents[place] : NONE;
            for (int level = 0; level < PLACES && above != NONE; level++) {
                if (above == ancestor) {
                    return true;
                }
                above = parents[above];
            }
            return false;
        }
    }

    /** What was printed: how many words, and the latest of them. */
    private static final class Tape {
        private final int[] latest = new int[KEPT_PRINTS];
        private int total;

        void append(int word) {
            latest[total % KEPT_PRINTS] = word;
            total++;
        }

        int count() {
            return total;
        }

        int backFromLatest(int k) {
            boolean kept = isBetween(k, 0, KEPT_PRINTS - 1) && k < total;
            return kept ? latest[(total - 1 - k) % KEPT_PRINTS] : 0;
        }
    }
}
