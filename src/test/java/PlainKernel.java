import java.util.ArrayList;
import java.util.List;

/**
 * The document a second time, told in other means: capabilities that point at one another, lists,
 * all that was printed. It is what RandomRunsTest holds the class against.
 */
final class PlainKernel {
    private static final class Capability {
        int kind;
        int object;
        int rights;
        Capability parent;
    }

    private static final class Thread {
        int number;
        int state;
        int fault;
        int counter;
        int base;
        int length;
        int[] registers = new int[8];
        Capability[] slots = new Capability[8];
        Thread caller;
        boolean calls;
        boolean grants;
        int word;
        int ownB;
        int ownC;
    }

    private static final class Fault extends Exception {
        private static final long serialVersionUID = 1L;
        final int number;

        Fault(int number) {
            super(null, null, false, false);
            this.number = number;
        }
    }

    private final int quantum;
    private final int[] memory = new int[128];
    private final Thread[] threads = new Thread[6];
    private final List<Thread> row = new ArrayList<>();
    private final List<List<Thread>> endpoints = new ArrayList<>();
    private final List<Integer> output = new ArrayList<>();
    private Thread lastFirst;
    private int ran;

    PlainKernel(int quantum) {
        this.quantum = quantum < 1 ? 1 : quantum > 8 ? 8 : quantum;
        for (int e = 0; e < 4; e++) {
            endpoints.add(new ArrayList<>());
        }
    }

    private Thread thread(int t) {
        return t < 0 || t > 5 ? null : threads[t];
    }

    private Capability at(int t, int s) {
        return thread(t) == null || s < 0 || s > 7 ? null : threads[t].slots[s];
    }

    boolean poke(int a, int v) {
        if (a < 0 || a > 127) {
            return false;
        }
        memory[a] = v;
        return true;
    }

    int peek(int a) {
        return a < 0 || a > 127 ? 0 : memory[a];
    }

    int spawn(int counter, int base, int length) {
        if (base < 0 || length < 0 || (long) base + length > 128) {
            return -1;
        }
        for (int t = 0; t < 6; t++) {
            if (threads[t] == null) {
                Thread thread = new Thread();
                thread.number = t;
                thread.counter = counter;
                thread.base = base;
                thread.length = length;
                threads[t] = thread;
                ready(thread);
                return t;
            }
        }
        return -1;
    }

    private void ready(Thread thread) {
        thread.state = 1;
        row.add(thread);
    }

    boolean put(int t, int r, int v) {
        if (thread(t) == null || r < 0 || r > 7) {
            return false;
        }
        threads[t].registers[r] = v;
        return true;
    }

    boolean give(int t, int s, int kind, int object, int rights) {
        if (thread(t) == null || s < 0 || s > 7 || threads[t].slots[s] != null) {
            return false;
        }
        if (kind < 1 || kind > 2 || object < 0 || object > (kind == 1 ? 3 : 0) || rights < 0 || rights > 7) {
            return false;
        }
        threads[t].slots[s] = made(kind, object, rights, null);
        return true;
    }

    private static Capability made(int kind, int object, int rights, Capability parent) {
        Capability capability = new Capability();
        capability.kind = kind;
        capability.object = object;
        capability.rights = rights;
        capability.parent = parent;
        return capability;
    }

    boolean reap(int t) {
        if (thread(t) == null || threads[t].state < 5) {
            return false;
        }
        for (int s = 0; s < 8; s++) {
            if (threads[t].slots[s] != null) {
                remove(threads[t], s);
            }
        }
        threads[t] = null;
        return true;
    }

    private void remove(Thread thread, int s) {
        Capability gone = thread.slots[s];
        thread.slots[s] = null;
        for (Thread other : threads) {
            for (int i = 0; other != null && i < 8; i++) {
                if (other.slots[i] != null && other.slots[i].parent == gone) {
                    other.slots[i].parent = gone.parent;
                }
            }
        }
    }

    private List<int[]> below(Capability top) {
        List<int[]> places = new ArrayList<>();
        for (Thread thread : threads) {
            for (int s = 0; thread != null && s < 8; s++) {
                Capability up = thread.slots[s] == null ? null : thread.slots[s].parent;
                while (up != null && up != top) {
                    up = up.parent;
                }
                if (up == top) {
                    places.add(new int[] {thread.number, s});
                }
            }
        }
        return places;
    }

    int step(int n) {
        if (n < 1 || n > 50) {
            return -1;
        }
        int made = 0;
        while (made < n && !row.isEmpty()) {
            one(row.get(0));
            made++;
        }
        return made;
    }

    private void one(Thread me) {
        if (lastFirst != me) {
            lastFirst = me;
            ran = 0;
        }
        boolean yield = false;
        try {
            if (me.counter < 0 || me.counter >= me.length) {
                throw new Fault(1);
            }
            int w = memory[me.base + me.counter];
            int old = me.counter;
            me.counter++;
            try {
                instruction(me, w);
            } catch (Fault fault) {
                me.counter = old;
                throw fault;
            }
            yield = (w & 31) == 13;
        } catch (Fault fault) {
            me.state = 5;
            me.fault = fault.number;
        }
        ran++;
        if (me.state != 1) {
            row.remove(me);
            lastFirst = null;
        } else if (yield || ran == quantum) {
            row.remove(me);
            row.add(me);
            lastFirst = null;
        }
    }

    private void instruction(Thread me, int w) throws Fault {
        int[] r = me.registers;
        int a = w >> 5 & 7;
        int b = w >> 8 & 7;
        int c = w >> 11 & 7;
        int n = w >> 14;
        switch (w & 31) {
            case 0 -> me.state = 6;
            case 1 -> r[a] = n;
            case 2 -> r[a] = r[b];
            case 3 -> r[a] = r[b] + r[c];
            case 4 -> r[a] = r[b] - r[c];
            case 5 -> r[a] = r[b] * r[c];
            case 6 -> r[a] = r[b] & r[c];
            case 7 -> r[a] = r[b] ^ r[c];
            case 8 -> r[a] = memory[address(me, r[b], n)];
            case 9 -> memory[address(me, r[b], n)] = r[a];
            case 10 -> me.counter = n;
            case 11 -> me.counter = r[a] == 0 ? n : me.counter;
            case 12 -> me.counter = r[a] < 0 ? n : me.counter;
            case 13 -> { }
            case 14 -> {
                needed(me.slots[a], 2, 1);
                output.add(r[b]);
            }
            case 15, 16 -> send(me, w);
            case 17 -> receive(me, w);
            case 18 -> answer(me, r[b]);
            case 19 -> mint(me, a, b, n);
            case 20 -> {
                any(me.slots[a]);
                remove(me, a);
            }
            case 21 -> {
                any(me.slots[a]);
                for (int[] place : below(me.slots[a])) {
                    threads[place[0]].slots[place[1]] = null;
                }
            }
            case 22 -> r[a] = me.slots[b] != null ? 1 : 0;
            default -> throw new Fault(3);
        }
    }

    private static int address(Thread me, int b, int n) throws Fault {
        long address = (long) b + n;
        if (address < 0 || address >= me.length) {
            throw new Fault(2);
        }
        return me.base + (int) address;
    }

    private static void any(Capability capability) throws Fault {
        if (capability == null) {
            throw new Fault(4);
        }
    }

    private static Capability needed(Capability capability, int kind, int rights) throws Fault {
        any(capability);
        if (capability.kind != kind || (capability.rights & rights) != rights) {
            throw new Fault(4);
        }
        return capability;
    }

    private static void mint(Thread me, int a, int b, int n) throws Fault {
        any(me.slots[a]);
        if (me.slots[b] != null) {
            throw new Fault(5);
        }
        Capability from = me.slots[a];
        me.slots[b] = made(from.kind, from.object, from.rights & n, from);
    }

    private void send(Thread me, int w) throws Fault {
        boolean grants = (w >> 14 & 1) == 1;
        List<Thread> there = endpoints.get(needed(me.slots[w >> 5 & 7], 1, grants ? 5 : 1).object);
        me.calls = (w & 31) == 16;
        me.grants = grants;
        me.ownB = w >> 8 & 7;
        me.ownC = w >> 11 & 7;
        me.word = me.registers[me.ownB];
        if (there.isEmpty() || there.get(0).state != 4) {
            me.state = 2;
            there.add(me);
            return;
        }
        Thread other = there.remove(0);
        pass(me, other);
        ready(other);
        me.state = me.calls ? 3 : 1;
    }

    private void receive(Thread me, int w) throws Fault {
        List<Thread> there = endpoints.get(needed(me.slots[w >> 5 & 7], 1, 2).object);
        me.ownB = w >> 8 & 7;
        me.ownC = w >> 11 & 7;
        if (there.isEmpty() || there.get(0).state != 2) {
            me.state = 4;
            there.add(me);
            return;
        }
        Thread other = there.remove(0);
        pass(other, me);
        if (other.calls) {
            other.state = 3;
        } else {
            ready(other);
        }
    }

    private static void pass(Thread s, Thread r) {
        r.registers[r.ownB] = s.word;
        Capability from = s.slots[s.ownC];
        boolean passes = s.grants && from != null && r.slots[r.ownC] == null;
        if (passes) {
            r.slots[r.ownC] = made(from.kind, from.object, from.rights, from);
        }
        r.registers[7] = passes ? 1 : 0;
        if (s.calls) {
            r.caller = s;
        }
    }

    private void answer(Thread me, int word) {
        if (me.caller != null) {
            me.caller.registers[me.caller.ownB] = word;
            ready(me.caller);
            me.caller = null;
        }
    }

    int state(int t) {
        return t < 0 || t > 5 ? -1 : threads[t] == null ? 0 : threads[t].state;
    }

    int fault(int t) {
        return thread(t) == null ? 0 : threads[t].fault;
    }

    int register(int t, int r) {
        return thread(t) == null || r < 0 || r > 7 ? 0 : threads[t].registers[r];
    }

    int counter(int t) {
        return thread(t) == null ? -1 : threads[t].counter;
    }

    int caller(int t) {
        return thread(t) == null || threads[t].caller == null ? -1 : threads[t].caller.number;
    }

    int capability(int t, int s, int part) {
        Capability capability = at(t, s);
        if (capability == null || part < 0 || part > 3) {
            return -1;
        }
        return part == 0 ? capability.kind : part == 1 ? capability.object : part == 2 ? capability.rights
            : placeOf(capability.parent);
    }

    private int placeOf(Capability capability) {
        for (int place = 0; capability != null && place < 48; place++) {
            if (at(place / 8, place % 8) == capability) {
                return place;
            }
        }
        return -1;
    }

    int descendants(int t, int s) {
        return at(t, s) == null ? -1 : below(at(t, s)).size();
    }

    int inRow(int e, int k) {
        if (e < -1 || e > 3) {
            return -1;
        }
        List<Thread> line = e == -1 ? row : endpoints.get(e);
        return k < 0 || k >= line.size() ? -1 : line.get(k).number;
    }

    int printed() {
        return output.size();
    }

    int print(int k) {
        return k < 0 || k > 15 || k >= output.size() ? 0 : output.get(output.size() - 1 - k);
    }
}
