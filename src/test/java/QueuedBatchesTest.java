/** Promise 15. A comment in quotes is the sentence of the document that the test below it holds. */
public final class QueuedBatchesTest {
    private static final Check CHECK = new Check();

    public static void main(String[] args) {
        senderNotInRange();
        receiverNotInRange();
        everyChannelForItself();
        fromNoneToThirtyTwo();
        countsBatchesNotEntries();
        changesNothing();
        CHECK.end();
    }

    /** "It answers 0 if s or r is not in range." */
    private static void senderNotInRange() {
        for (int workers = 1; workers <= 4; workers++) {
            int all = workers;
            for (int s : Check.outside(workers)) {
                for (int r = 0; r < workers; r++) {
                    int to = r;
                    CHECK.changesNothing("queuedBatches(" + s + ", " + r + ") of " + all, () -> Runs.busy(all),
                        t -> t.queuedBatches(s, to), 0);
                }
                CHECK.changesNothing("queuedBatches(" + s + ", " + s + ") of " + all, () -> Runs.busy(all),
                    t -> t.queuedBatches(s, s), 0);
            }
        }
    }

    private static void receiverNotInRange() {
        for (int workers = 1; workers <= 4; workers++) {
            int all = workers;
            for (int r : Check.outside(workers)) {
                for (int s = 0; s < workers; s++) {
                    int from = s;
                    CHECK.changesNothing("queuedBatches(" + s + ", " + r + ") of " + all, () -> Runs.busy(all),
                        t -> t.queuedBatches(from, r), 0);
                }
            }
        }
    }

    /** "answers the number of batches in channel (s,r)" */
    private static void everyChannelForItself() {
        ProgressTracker x = new ProgressTracker(4);
        for (int s = 0; s < 4; s++) {
            Runs.oneEntryBatches(x, s, 0, 20 + s);
            for (int r = 0; r < 4; r++) {
                for (int i = 0; i < 4 * s + r; i++) {
                    Runs.need(x.deliver(s, r), 1);
                }
            }
        }
        for (int s = 0; s < 4; s++) {
            for (int r = 0; r < 4; r++) {
                CHECK.due("queuedBatches(" + s + ", " + r + ")", x.queuedBatches(s, r), 20 + s - 4 * s - r);
            }
        }
    }

    private static void fromNoneToThirtyTwo() {
        for (int workers = 1; workers <= 4; workers++) {
            int last = workers - 1;
            ProgressTracker x = new ProgressTracker(workers);
            for (int i = 0; i < 32; i++) {
                CHECK.due("queuedBatches after " + i, x.queuedBatches(last, last), i);
                Runs.oneEntryBatches(x, last, 0, 1);
            }
            CHECK.due("queuedBatches of a full channel", x.queuedBatches(last, last), 32);
            for (int i = 31; i >= 0; i--) {
                Runs.need(x.deliver(last, last), 1);
                CHECK.due("queuedBatches with " + i + " left", x.queuedBatches(last, last), i);
            }
            Runs.need(x.deliver(last, last), -8);
            CHECK.due("queuedBatches after an empty delivery", x.queuedBatches(last, last), 0);
        }
    }

    private static void countsBatchesNotEntries() {
        ProgressTracker x = Runs.fullPending(2);
        CHECK.due("before a broadcast", x.queuedBatches(0, 1), 0);
        Runs.need(x.broadcast(0), 16);
        CHECK.due("after a broadcast of 16 entries", x.queuedBatches(0, 1), 1);
        Runs.need(x.broadcast(0), -8);
        CHECK.due("after an empty broadcast", x.queuedBatches(0, 1), 1);
        Runs.oneEntryBatches(x, 0, 1, 16);
        CHECK.due("of a full channel", x.queuedBatches(0, 1), 17);
        Runs.need(x.send(0, 0, 1, 0), 0);
        Runs.need(x.broadcast(0), -7);
        CHECK.due("after a refused broadcast", x.queuedBatches(0, 1), 17);
        Runs.need(x.deliver(0, 1), 16);
        CHECK.due("after a delivery", x.queuedBatches(0, 1), 16);
        CHECK.due("of the sender's own channel", x.queuedBatches(0, 0), 17);
    }

    /** "It changes nothing." */
    private static void changesNothing() {
        for (int i = 0; i < 16; i++) {
            int s = i / 4;
            int r = i % 4;
            int heard = r == 3 ? 1 : (s + r) % 3;
            CHECK.changesNothing("queuedBatches(" + s + ", " + r + ")", () -> Runs.busy(4),
                t -> t.queuedBatches(s, r), 3 - heard);
        }
    }
}
