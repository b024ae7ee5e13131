import java.util.Map;
import java.util.TreeMap;

/** Promise 1. */
public final class ConstructionTest {
    private static final Check CHECK = new Check();

    public static void main(String[] args) {
        int[][] clamped = {{Integer.MIN_VALUE, 1}, {-5, 1}, {-1, 1}, {0, 1}, {1, 1}, {2, 2}, {3, 3}, {4, 4},
            {5, 4}, {9, 4}, {Integer.MAX_VALUE, 4}};
        for (int[] pair : clamped) {
            startsAsPromised(pair[0], pair[1]);
        }
        workersNeverChange();
        objectsShareNothing();
        CHECK.end();
    }

    private static void startsAsPromised(int argument, int workers) {
        ProgressTracker x = new ProgressTracker(argument);
        String made = "new ProgressTracker(" + argument + ")";
        Map<String, Integer> due = new TreeMap<>();
        for (String name : Check.counts(x).keySet()) {
            due.put(name, 0);
        }
        for (int w = 0; w < workers; w++) {
            due.put("caps[" + w + "](0,0,0)", 1);
            due.put("view[" + w + "](0,0,0)", workers);
        }
        CHECK.due("the counts of " + made, Check.counts(x), due);
        CHECK.due("isQuiet of " + made, x.isQuiet(), true);
        for (int s = 0; s < 5; s++) {
            CHECK.due("broadcast(" + s + ") of " + made, x.broadcast(s), s < workers ? -8 : -1);
            for (int r = 0; r < 5; r++) {
                int want = s < workers && r < workers ? -8 : -1;
                CHECK.due("deliver(" + s + ", " + r + ") of " + made, x.deliver(s, r), want);
            }
        }
    }

    private static void workersNeverChange() {
        ProgressTracker x = new ProgressTracker(3);
        Runs.hold(x, 2, 3, 0, 3);
        Runs.settle(x, 2);
        CHECK.due("drop by the last worker", x.drop(2, 0, 0, 0), 0);
        CHECK.due("drop by the worker after the last", x.drop(3, 0, 0, 0), -1);
        CHECK.due("broadcast by the last worker", x.broadcast(2), 1);
        CHECK.due("queuedBatches(2, 2)", x.queuedBatches(2, 2), 1);
        CHECK.due("queuedBatches(2, 3)", x.queuedBatches(2, 3), 0);
    }

    private static void objectsShareNothing() {
        ProgressTracker used = Runs.fullPending(4);
        Runs.need(used.broadcast(0), 16);
        startsAsPromised(4, 4);
    }
}
