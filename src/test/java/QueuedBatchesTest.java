/** Promise 15. */
public final class QueuedBatchesTest {
    private static final Check CHECK = new Check();

    public static void main(String[] args) {
        everyChannelForItself();
        countsBatchesNotEntries();
        badArgumentsAnswerZero();
        CHECK.end();
    }

    private static void everyChannelForItself() {
        ProgressTracker x = new ProgressTracker(4);
        for (int s = 0; s < 4; s++) {
            Runs.oneEntryBatches(x, s, 0, 20 + s);
            for (int r = 0; r < 4; r++) {
                for (int i = 0; i < 4 * s + r; i++) {
                    Runs.need(x.deliver(s, r), 1);
                }
            }
        }
        for (int s = 0; s < 4; s++) {
            for (int r = 0; r < 4; r++) {
                CHECK.due("queuedBatches(" + s + ", " + r + ")", x.queuedBatches(s, r), 20 + s - 4 * s - r);
            }
        }
    }

    private static void countsBatchesNotEntries() {
        ProgressTracker x = Runs.fullPending(2);
        CHECK.due("before a broadcast", x.queuedBatches(0, 1), 0);
        Runs.need(x.broadcast(0), 16);
        CHECK.due("after a broadcast of 16 entries", x.queuedBatches(0, 1), 1);
        Runs.need(x.broadcast(0), -8);
        CHECK.due("after an empty broadcast", x.queuedBatches(0, 1), 1);
        Runs.oneEntryBatches(x, 0, 1, 16);
        CHECK.due("of a full channel", x.queuedBatches(0, 1), 17);
        Runs.need(x.send(0, 0, 1, 0), 0);
        Runs.need(x.broadcast(0), -7);
        CHECK.due("after a refused broadcast", x.queuedBatches(0, 1), 17);
        Runs.need(x.deliver(0, 1), 16);
        CHECK.due("after a delivery", x.queuedBatches(0, 1), 16);
        CHECK.due("of the sender's own channel", x.queuedBatches(0, 0), 17);
    }

    private static void badArgumentsAnswerZero() {
        ProgressTracker x = new ProgressTracker(4);
        for (int w = 0; w < 4; w++) {
            Runs.oneEntryBatches(x, w, 0, 2);
        }
        for (int bad : Check.OUTSIDE) {
            for (int w = 0; w < 4; w++) {
                int other = w;
                CHECK.call(x, "queuedBatches(" + bad + ", " + w + ")", t -> t.queuedBatches(bad, other), 0);
                CHECK.call(x, "queuedBatches(" + w + ", " + bad + ")", t -> t.queuedBatches(other, bad), 0);
            }
        }
        CHECK.call(x, "queuedBatches(3, 3)", t -> t.queuedBatches(3, 3), 2);
        ProgressTracker three = new ProgressTracker(3);
        Runs.oneEntryBatches(three, 2, 0, 1);
        CHECK.due("queuedBatches(2, 2) of 3", three.queuedBatches(2, 2), 1);
        CHECK.due("queuedBatches(2, 3) of 3", three.queuedBatches(2, 3), 0);
        CHECK.due("queuedBatches(3, 2) of 3", three.queuedBatches(3, 2), 0);
    }
}
