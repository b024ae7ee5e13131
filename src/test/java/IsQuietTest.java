/** Promise 16. */
public final class IsQuietTest {
    private static final Check CHECK = new Check();

    public static void main(String[] args) {
        for (int workers = 1; workers <= 4; workers++) {
            anyPendingIsNotQuiet(workers);
            anyChannelIsNotQuiet(workers);
        }
        lastPointstampIsNotQuiet();
        countsDoNotMatter();
        CHECK.end();
    }

    private static void anyPendingIsNotQuiet(int workers) {
        for (int w = 0; w < workers; w++) {
            ProgressTracker x = new ProgressTracker(workers);
            CHECK.call(x, "isQuiet at the start", t -> t.isQuiet() ? 1 : 0, 1);
            Runs.need(x.drop(w, 0, 0, 0), 0);
            CHECK.call(x, "isQuiet with pending of " + w, t -> t.isQuiet() ? 1 : 0, 0);
        }
    }

    private static void anyChannelIsNotQuiet(int workers) {
        for (int s = 0; s < workers; s++) {
            for (int last = 0; last < workers; last++) {
                ProgressTracker x = new ProgressTracker(workers);
                Runs.oneEntryBatches(x, s, 0, 2);
                for (int i = 0; i < 2 * workers; i++) {
                    if (i % workers != last) {
                        Runs.need(x.deliver(s, i % workers), 1);
                    }
                }
                CHECK.due("isQuiet with two batches in (" + s + "," + last + ")", x.isQuiet(), false);
                Runs.need(x.deliver(s, last), 1);
                CHECK.due("isQuiet with one batch in (" + s + "," + last + ")", x.isQuiet(), false);
                Runs.need(x.deliver(s, last), 1);
                CHECK.due("isQuiet with none in (" + s + "," + last + ")", x.isQuiet(), true);
            }
        }
    }

    private static void lastPointstampIsNotQuiet() {
        ProgressTracker x = new ProgressTracker(2);
        for (int e = 0; e < 3; e++) {
            Runs.need(x.advanceInput(1, e), 0);
        }
        Runs.hold(x, 1, ProgressTracker.BODY, 3, 3);
        Runs.settle(x, 1);
        CHECK.due("isQuiet before", x.isQuiet(), true);
        Runs.need(x.send(1, 3, 3, 3), 0);
        CHECK.due("isQuiet with pending at (3,3,3)", x.isQuiet(), false);
        Runs.need(x.receive(1, 3, 3, 3), 0);
        CHECK.due("isQuiet after a receive", x.isQuiet(), false);
        Runs.need(x.drop(1, 3, 3, 3), 0);
        CHECK.due("isQuiet when changes cancelled", x.isQuiet(), true);
    }

    private static void countsDoNotMatter() {
        ProgressTracker x = new ProgressTracker(2);
        Runs.need(x.send(0, 0, 0, 0), 0);
        Runs.settle(x, 0);
        CHECK.due("isQuiet with a message in flight", x.isQuiet(), true);
        Runs.need(x.receive(1, 1, 0, 0), 0);
        CHECK.due("isQuiet with a capability held", x.isQuiet(), true);
        Runs.need(x.drop(1, 1, 0, 0), 0);
        Runs.need(x.send(0, 0, 0, 0), 0);
        CHECK.due("isQuiet with pending that would cancel another's", x.isQuiet(), false);
        Runs.settle(x, 0);
        CHECK.due("isQuiet with one of two buffers empty", x.isQuiet(), false);
        Runs.settle(x, 1);
        CHECK.due("isQuiet at the end", x.isQuiet(), true);
    }
}
