import java.util.LinkedHashMap;
import java.util.Map;

/** All that the face shows of a kernel, and what a call changes in it. */
final class Picture {
    /** Makes the same kernel every time: one look at all of it takes more calls than one object has. */
    interface Maker {
        GrantKernel make();
    }

    interface Act {
        void on(GrantKernel x);
    }

    private final Map<String, String> parts = new LinkedHashMap<>();

    private Picture(Maker maker) {
        threads(maker.make());
        rowsAndPrints(maker.make());
        capabilities(maker.make());
        memory(maker.make());
    }

    /** What the act changes, as "part: before -> after" joined by "; ", or "nothing". */
    static String changes(Maker maker, Act act) {
        return between(maker, () -> {
            GrantKernel x = maker.make();
            act.on(x);
            return x;
        });
    }

    /** What is otherwise in the second kernel than in the first. */
    static String between(Maker first, Maker second) {
        Map<String, String> before = new Picture(first).parts;
        Map<String, String> after = new Picture(second).parts;
        StringBuilder text = new StringBuilder();
        for (Map.Entry<String, String> part : before.entrySet()) {
            String now = after.get(part.getKey());
            if (!now.equals(part.getValue())) {
                text.append(text.length() == 0 ? "" : "; ");
                text.append(part.getKey()).append(": ").append(part.getValue()).append(" -> ").append(now);
            }
        }
        return text.length() == 0 ? "nothing" : text.toString();
    }

    private void threads(GrantKernel x) {
        for (int t = 0; t < 6; t++) {
            parts.put("state " + t, "" + x.state(t));
            parts.put("fault " + t, "" + x.fault(t));
            parts.put("counter " + t, "" + x.counter(t));
            parts.put("caller " + t, "" + x.caller(t));
            for (int r = 0; r < 8; r++) {
                parts.put("register " + t + "." + r, "" + x.register(t, r));
            }
        }
    }

    private void rowsAndPrints(GrantKernel x) {
        for (int e = -1; e < 4; e++) {
            parts.put(e == -1 ? "row" : "row of " + e, row(x, e));
        }
        parts.put("printed", "" + x.printed());
        for (int k = 0; k < 16; k++) {
            parts.put("print " + k, "" + x.print(k));
        }
    }

    /** The threads of a row, one after the other, in brackets. */
    static String row(GrantKernel x, int e) {
        StringBuilder text = new StringBuilder("[");
        for (int k = 0; k < 7; k++) {
            int t = x.inRow(e, k);
            if (t != GrantKernel.NONE) {
                text.append(k == 0 ? "" : " ").append(t);
            }
        }
        return text.append("]").toString();
    }

    private void capabilities(GrantKernel x) {
        for (int t = 0; t < 6; t++) {
            for (int s = 0; s < 8; s++) {
                parts.put("slot " + t + "." + s, capability(x, t, s));
                parts.put("below " + t + "." + s, "" + x.descendants(t, s));
            }
        }
    }

    /** Kind, object, rights and parent, or "empty". */
    static String capability(GrantKernel x, int t, int s) {
        int kind = x.capability(t, s, 0);
        if (kind == GrantKernel.NONE) {
            return "empty";
        }
        return "(" + kind + " " + x.capability(t, s, 1) + " " + x.capability(t, s, 2) + " " + x.capability(t, s, 3) + ")";
    }

    private void memory(GrantKernel x) {
        for (int a = 0; a < 128; a++) {
            parts.put("word " + a, "" + x.peek(a));
        }
    }
}
