import java.util.Map;
import java.util.TreeMap;
import java.util.function.Supplier;

/** Counts the answers of one test that are not as due, and ends its program with 1 if there was one. */
final class Check {
    /** Ints on both sides of every bound that the document names, and the ends of the int range. */
    static final int[] OUTSIDE = {Integer.MIN_VALUE, -65, -64, -17, -16, -5, -4, -1, 4, 5, 16, 17, 64, 65,
        1 << 24, 1 << 26, 1 << 28, 1 << 30, Integer.MAX_VALUE - 1, Integer.MAX_VALUE};

    private int wrong = 0;
    private int asked = 0;

    void due(String what, Object got, Object want) {
        asked++;
        if (!got.equals(want)) {
            wrong++;
            System.out.println(what + " answered " + got + ", due is " + want);
        }
    }

    /** As above, for many millions of answers: the text is made only where it is needed. */
    void dueOften(Supplier<String> what, int got, int want) {
        asked++;
        if (got != want) {
            due(what.get(), got, want);
        }
    }

    /** Makes one call, and holds its answer and all that it changed against what is due. */
    void call(ProgressTracker x, String what, Call call, int want, String... changes) {
        Map<String, Integer> before = counts(x);
        int got = call.on(x);
        due(what, got, want);
        due("what " + what + " changed", difference(before, counts(x)), String.join("; ", changes));
    }

    void end() {
        if (asked == 0) {
            wrong++;
            System.out.println("nothing was asked");
        }
        if (wrong != 0) {
            System.out.println(wrong + " of " + asked + " answers are not as due");
            System.exit(1);
        }
    }

    interface Call {
        int on(ProgressTracker x);
    }

    /** Every count that the object answers, of all workers that there can be. */
    static Map<String, Integer> counts(ProgressTracker x) {
        Map<String, Integer> all = new TreeMap<>();
        for (int p = 0; p < 64; p++) {
            int op = p / 16;
            int e = p / 4 % 4;
            int r = p % 4;
            String point = "(" + op + "," + e + "," + r + ")";
            all.put("msgs" + point, x.messages(op, e, r));
            for (int w = 0; w < 4; w++) {
                all.put("caps[" + w + "]" + point, x.capabilities(w, op, e, r));
                all.put("pending[" + w + "]" + point, x.pendingCount(w, op, e, r));
                all.put("view[" + w + "]" + point, x.viewCount(w, op, e, r));
            }
        }
        for (int s = 0; s < 4; s++) {
            for (int r = 0; r < 4; r++) {
                all.put("queue[" + s + "][" + r + "]", x.queuedBatches(s, r));
            }
        }
        return all;
    }

    private static String difference(Map<String, Integer> before, Map<String, Integer> after) {
        StringBuilder text = new StringBuilder();
        for (Map.Entry<String, Integer> entry : after.entrySet()) {
            int old = before.get(entry.getKey());
            if (old != entry.getValue()) {
                text.append(text.length() == 0 ? "" : "; ");
                text.append(entry.getKey()).append(' ').append(old).append("->").append(entry.getValue());
            }
        }
        return text.toString();
    }
}
