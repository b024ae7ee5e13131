/** Promise 16. A comment in quotes is the sentence of the document that the test below it holds. */
public final class IsQuietTest {
    private static final Check CHECK = new Check();

    public static void main(String[] args) {
        quietFromTheStart();
        anyWorkersPending();
        pendingAtAnyPointstamp();
        pendingThatCancelled();
        anyChannel();
        countsDoNotMatter();
        changesNothing();
        CHECK.end();
    }

    private static void quietFromTheStart() {
        for (int workers = 1; workers <= 4; workers++) {
            int all = workers;
            CHECK.changesNothing("isQuiet at the start", () -> new ProgressTracker(all), t -> t.isQuiet() ? 1 : 0, 1);
            CHECK.changesNothing("isQuiet when all have heard of all", () -> Runs.everywhere(all, 1),
                t -> t.isQuiet() ? 1 : 0, 1);
        }
    }

    /** "pending[w][p] == 0 for every worker w in range [...]" */
    private static void anyWorkersPending() {
        for (int workers = 1; workers <= 4; workers++) {
            for (int w = 0; w < workers; w++) {
                ProgressTracker x = new ProgressTracker(workers);
                Runs.need(x.drop(w, 0, 0, 0), 0);
                CHECK.call(x, "isQuiet with pending of " + w, t -> t.isQuiet() ? 1 : 0, 0);
            }
        }
    }

    /** "[...] and every pointstamp p" */
    private static void pendingAtAnyPointstamp() {
        int[] values = {-2, -1, 1, 2};
        for (int p = Stamp.FIRST_OF_HEAD; p < Stamp.COUNT; p++) {
            for (int w = 0; w < 3; w++) {
                for (int value : values) {
                    ProgressTracker x = Runs.everywhere(4, Stamp.epoch(p));
                    Runs.bringPendingTo(x, w, p, value);
                    CHECK.due("isQuiet with " + value + " at " + Stamp.name(p) + " of " + w, x.isQuiet(), false);
                }
            }
        }
        for (int e = 0; e < 4; e++) {
            ProgressTracker x = Runs.everywhere(2, e);
            Runs.need(x.drop(0, 0, e, 0), 0);
            CHECK.due("isQuiet with the input at " + e + " dropped", x.isQuiet(), false);
        }
    }

    private static void pendingThatCancelled() {
        ProgressTracker x = Runs.everywhere(2, 1);
        Runs.sendTo(x, 0, 63);
        CHECK.due("isQuiet after a send", x.isQuiet(), false);
        Runs.dropAt(x, 0, 63);
        CHECK.due("isQuiet after a send and a drop at one place", x.isQuiet(), true);
        Runs.sendTo(x, 0, 63);
        Runs.dropAt(x, 1, 63);
        CHECK.due("isQuiet with two buffers that would cancel", x.isQuiet(), false);
        Runs.settle(x, 0);
        CHECK.due("isQuiet with one of two buffers empty", x.isQuiet(), false);
        Runs.settle(x, 1);
        CHECK.due("isQuiet at the end", x.isQuiet(), true);
    }

    /** "every channel is empty" */
    private static void anyChannel() {
        for (int workers = 1; workers <= 4; workers++) {
            for (int s = 0; s < workers; s++) {
                for (int last = 0; last < workers; last++) {
                    onlyThisChannel(workers, s, last);
                }
            }
        }
    }

    private static void onlyThisChannel(int workers, int s, int last) {
        ProgressTracker x = new ProgressTracker(workers);
        Runs.oneEntryBatches(x, s, 0, 2);
        CHECK.due("isQuiet with all channels of " + s + " filled", x.isQuiet(), false);
        for (int r = 0; r < workers; r++) {
            if (r != last) {
                Runs.deliverAll(x, s, r);
            }
        }
        String where = " in (" + s + "," + last + ") of " + workers;
        CHECK.due("isQuiet with two batches" + where, x.isQuiet(), false);
        Runs.need(x.deliver(s, last), 1);
        CHECK.due("isQuiet with one batch" + where, x.isQuiet(), false);
        Runs.need(x.deliver(s, last), 1);
        CHECK.due("isQuiet with none" + where, x.isQuiet(), true);
    }

    private static void countsDoNotMatter() {
        ProgressTracker x = new ProgressTracker(2);
        Runs.need(x.send(0, 0, 0, 0), 0);
        Runs.settle(x, 0);
        CHECK.due("isQuiet with a message in flight", x.isQuiet(), true);
        Runs.need(x.receive(1, 1, 0, 0), 0);
        CHECK.due("isQuiet after a receive", x.isQuiet(), true);
        Runs.need(x.drop(1, 1, 0, 0), 0);
        Runs.settle(x, 1);
        Runs.need(x.drop(0, 0, 0, 0), 0);
        Runs.need(x.drop(1, 0, 0, 0), 0);
        Runs.settle(x, 0);
        Runs.settle(x, 1);
        CHECK.due("isQuiet with nothing left at all", x.isQuiet(), true);
    }

    /** "It changes nothing." */
    private static void changesNothing() {
        for (int workers = 1; workers <= 4; workers++) {
            int all = workers;
            CHECK.changesNothing("isQuiet in a busy state", () -> Runs.busy(all), t -> t.isQuiet() ? 1 : 0, 0);
        }
    }
}
