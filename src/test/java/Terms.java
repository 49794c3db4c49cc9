/**
 * What the document's "Terms" say of a kernel at any time, looked at through the face alone, so that
 * a mistake that PlainKernel shares with the class shows too.
 */
final class Terms {
    /** No look at one kernel takes more calls than this. */
    static final int CALLS = 300;

    private final Check check;
    private final String about;
    private final GrantKernel x;
    private final int[] states = new int[6];

    private Terms(Check check, String about, GrantKernel x) {
        this.check = check;
        this.about = about + ": ";
        this.x = x;
    }

    static void hold(Check check, String about, GrantKernel x) {
        Terms terms = new Terms(check, about, x);
        terms.threads();
        terms.callers();
        terms.rows();
        terms.capabilities();
    }

    private void due(String what, long got, long want) {
        check.due(about + what, got, want);
    }

    private void due(String what, boolean got) {
        check.due(about + what, got, true);
    }

    private void threads() {
        for (int t = 0; t < 6; t++) {
            states[t] = x.state(t);
            due("state " + t + " is 0 .. 6", states[t] >= 0 && states[t] <= 6);
            int fault = x.fault(t);
            due("fault " + t + " in state " + states[t], states[t] == 5 ? fault >= 1 && fault <= 5 : fault == 0);
        }
    }

    /** A caller is answered later, and by one thread alone. */
    private void callers() {
        boolean[] seen = new boolean[6];
        for (int t = 0; t < 6; t++) {
            int caller = x.caller(t);
            if (caller != GrantKernel.NONE) {
                due("a free thread " + t + " has no caller", states[t] != 0);
                due("the state of caller " + caller, states[caller], 3);
                due("caller " + caller + " waits for " + t + " alone", !seen[caller]);
                seen[caller] = true;
            }
        }
    }

    /** Ready threads are in the row, those that send or receive at one endpoint, and no other anywhere. */
    private void rows() {
        int[] places = new int[6];
        for (int e = -1; e < 4; e++) {
            int first = x.inRow(e, 0);
            boolean ended = false;
            for (int k = 0; k < 7; k++) {
                int t = k == 0 ? first : x.inRow(e, k);
                due("row " + e + " has no gap before " + k, !ended || t == GrantKernel.NONE);
                ended = t == GrantKernel.NONE;
                if (!ended) {
                    places[t]++;
                    due("state " + t + " in row " + e, e == -1 ? states[t] == 1 : states[t] == 2 || states[t] == 4);
                    due("state " + t + " is that of the first of row " + e, states[t], states[first]);
                }
            }
        }
        for (int t = 0; t < 6; t++) {
            boolean inRow = states[t] == 1 || states[t] == 2 || states[t] == 4;
            due("places of thread " + t + " in rows", places[t], inRow ? 1 : 0);
        }
    }

    private void capabilities() {
        int[][] parts = new int[48][4];
        int[] childrenAndTheirs = new int[48];
        int[] below = new int[48];
        for (int place = 0; place < 48; place++) {
            for (int part = 0; part < 4; part++) {
                parts[place][part] = x.capability(place / 8, place % 8, part);
            }
            below[place] = x.descendants(place / 8, place % 8);
        }
        for (int place = 0; place < 48; place++) {
            capability(place, parts);
            int parent = parts[place][3];
            if (parent != GrantKernel.NONE) {
                childrenAndTheirs[parent] += 1 + below[place];
            }
        }
        for (int place = 0; place < 48; place++) {
            boolean empty = parts[place][0] == GrantKernel.NONE;
            due("descendants at " + place, below[place], empty ? GrantKernel.NONE : childrenAndTheirs[place]);
        }
    }

    /** A capability is never more than its parent: the same kind and object, and rights from among its rights. */
    private void capability(int place, int[][] parts) {
        int[] own = parts[place];
        if (own[0] == GrantKernel.NONE) {
            due("an empty slot " + place + " has no part", own[1] == -1 && own[2] == -1 && own[3] == -1);
            return;
        }
        due("thread of slot " + place + " is not free", states[place / 8] != 0);
        due("object at " + place, own[1] >= 0 && own[1] <= (own[0] == 1 ? 3 : 0));
        due("rights at " + place, own[2] >= 0 && own[2] <= 7);
        if (own[3] != GrantKernel.NONE) {
            int[] parent = parts[own[3]];
            due("kind of the parent of " + place, parent[0], own[0]);
            due("object of the parent of " + place, parent[1], own[1]);
            due("rights at " + place + " that its parent lacks", own[2] & ~parent[2], 0);
        }
    }
}
