import java.util.ArrayList;
import java.util.List;

/** What waits in the channels of an object. A look at it delivers all of it. */
final class Channels {
    private static final int MOST = 32;

    private Channels() {
    }

    /** For each channel from (0,0) to (3,3) its batches, the oldest first, as what their deliveries answer and add. */
    static List<List<String>> of(ProgressTracker x) {
        List<List<String>> all = new ArrayList<>();
        for (int i = 0; i < 16; i++) {
            all.add(batches(x, i / 4, i % 4));
        }
        return all;
    }

    private static List<String> batches(ProgressTracker x, int s, int r) {
        List<String> found = new ArrayList<>();
        int[] before = Counts.of(x);
        for (int i = 0; i <= MOST; i++) {
            int answer = x.deliver(s, r);
            int[] after = Counts.of(x);
            if (answer < 0) {
                String changed = Counts.difference(before, after);
                found.add("end " + answer + changed);
                return found;
            }
            found.add(batch(answer, before, after, s, r));
            before = after;
        }
        found.add("no end");
        return found;
    }

    private static String batch(int answer, int[] before, int[] after, int s, int r) {
        StringBuilder text = new StringBuilder().append(answer);
        for (int i = 0; i < Counts.SIZE; i++) {
            int delta = after[i] - before[i];
            String name = Counts.name(i);
            boolean taken = delta == -1 && name.equals("queue[" + s + "][" + r + "]");
            if (delta != 0 && !taken) {
                String view = "view[" + r + "]";
                text.append(' ').append(name.startsWith(view) ? name.substring(view.length()) : name);
                text.append(delta > 0 ? "+" : "").append(delta);
            }
        }
        return text.toString();
    }

    /** The channels that differ, as "channel[s][r] old->new", one after the other with "; " between them. */
    static String difference(List<List<String>> before, List<List<String>> after) {
        StringBuilder text = new StringBuilder();
        for (int i = 0; i < 16; i++) {
            if (!before.get(i).equals(after.get(i))) {
                text.append(text.length() == 0 ? "" : "; ").append("channel[" + i / 4 + "][" + i % 4 + "] ");
                text.append(before.get(i)).append("->").append(after.get(i));
            }
        }
        return text.toString();
    }
}
