/** Promise 1. A comment in quotes is the sentence of the document that the test below it holds. */
public final class ConstructionTest {
    private static final Check CHECK = new Check();

    public static void main(String[] args) {
        belowOneBecomesOne();
        aboveFourBecomesFour();
        anyOtherIsKept();
        workersNeverChange();
        objectsShareNothing();
        CHECK.end();
    }

    /** "a value below 1 becomes 1" */
    private static void belowOneBecomesOne() {
        int[] below = {0, -1, -2, -3, -4, -5, -64, -255, -256, 1 << 31, (1 << 31) + 1, (1 << 31) + 4};
        for (int workers : below) {
            startsAsPromised(workers, 1);
        }
    }

    /** "a value above 4 becomes 4" */
    private static void aboveFourBecomesFour() {
        int[] above = {5, 6, 7, 8, 9, 16, 64, 256, 257, (1 << 16) + 2, (1 << 24) + 3, 1 << 30,
            Integer.MAX_VALUE - 1, Integer.MAX_VALUE};
        for (int workers : above) {
            startsAsPromised(workers, 4);
        }
    }

    /** "any other value is kept" */
    private static void anyOtherIsKept() {
        for (int workers = 1; workers <= 4; workers++) {
            startsAsPromised(workers, workers);
        }
    }

    private static void startsAsPromised(int argument, int workers) {
        ProgressTracker x = new ProgressTracker(argument);
        String made = " of new ProgressTracker(" + argument + ")";
        workersAre(x, workers, made);
        capabilitiesAtTheStart(x, workers, made);
        viewsAtTheStart(x, workers, made);
        restAtTheStart(x, workers, made);
        channelsAtTheStart(x, workers, made);
    }

    /** A receive at SOURCE, where a message never waits, tells who is in range and changes nothing. */
    private static void workersAre(ProgressTracker x, int workers, String where) {
        for (int w = -2; w < 7; w++) {
            int want = 0 <= w && w < workers ? -3 : -1;
            int worker = w;
            CHECK.dueOften(() -> "receive(" + worker + ", 0, 0, 0)" + where, x.receive(w, 0, 0, 0), want);
        }
    }

    /** "caps[w][(0,0,0)] = 1 for every worker w in range", "every other capability count [...] is 0" */
    private static void capabilitiesAtTheStart(ProgressTracker x, int workers, String made) {
        for (int w = 0; w < 4; w++) {
            for (int p = 0; p < Stamp.COUNT; p++) {
                int want = w < workers && p == 0 ? 1 : 0;
                CHECK.due("capabilities of " + w + " at " + Stamp.name(p) + made, Runs.held(x, w, p), want);
            }
        }
    }

    /** "view[w][(0,0,0)] = W for every worker w in range", "every other view count [is] 0" */
    private static void viewsAtTheStart(ProgressTracker x, int workers, String made) {
        for (int w = 0; w < 4; w++) {
            for (int p = 0; p < Stamp.COUNT; p++) {
                int want = w < workers && p == 0 ? workers : 0;
                int got = x.viewCount(w, Stamp.op(p), Stamp.epoch(p), Stamp.round(p));
                CHECK.due("viewCount of " + w + " at " + Stamp.name(p) + made, got, want);
            }
        }
    }

    /** "every message count, every pending[w][p] [...] is 0" */
    private static void restAtTheStart(ProgressTracker x, int workers, String made) {
        for (int p = 0; p < Stamp.COUNT; p++) {
            int messages = x.messages(Stamp.op(p), Stamp.epoch(p), Stamp.round(p));
            CHECK.due("messages at " + Stamp.name(p) + made, messages, 0);
            for (int w = 0; w < 4; w++) {
                CHECK.due("pendingCount of " + w + " at " + Stamp.name(p) + made, Runs.pendingAt(x, w, p), 0);
                int answer = x.receive(w, Stamp.op(p), Stamp.epoch(p), Stamp.round(p));
                CHECK.due("receive by " + w + " at " + Stamp.name(p) + made, answer, w < workers ? -3 : -1);
            }
        }
        for (int w = 0; w < workers; w++) {
            CHECK.due("broadcast(" + w + ")" + made, x.broadcast(w), -8);
        }
        CHECK.due("isQuiet" + made, x.isQuiet(), true);
    }

    /** "all W*W channels are empty" */
    private static void channelsAtTheStart(ProgressTracker x, int workers, String made) {
        for (int s = 0; s < 5; s++) {
            for (int r = 0; r < 5; r++) {
                int want = s < workers && r < workers ? -8 : -1;
                CHECK.due("queuedBatches(" + s + ", " + r + ")" + made, x.queuedBatches(s, r), 0);
                CHECK.due("deliver(" + s + ", " + r + ")" + made, x.deliver(s, r), want);
            }
        }
    }

    /** "W is the clamped value, and it never changes afterwards." */
    private static void workersNeverChange() {
        for (int workers = 1; workers <= 4; workers++) {
            ProgressTracker x = Runs.busy(workers);
            workersAre(x, workers, " of a busy object");
            int[] numbers = {0, workers - 1, workers, 4, -1, Integer.MAX_VALUE, Integer.MIN_VALUE};
            for (int w : numbers) {
                for (int other : numbers) {
                    x.send(w, 3, 1, 1);
                    x.receive(w, 2, 1, 1);
                    x.drop(w, 1, 2, 3);
                    x.advanceInput(w, 1);
                    x.broadcast(w);
                    x.deliver(w, other);
                    workersAre(x, workers, " after calls with worker " + w);
                }
            }
        }
    }

    private static void objectsShareNothing() {
        ProgressTracker used = Runs.fullPending(4);
        Runs.need(used.broadcast(0), 16);
        startsAsPromised(4, 4);
        ProgressTracker small = new ProgressTracker(1);
        ProgressTracker large = new ProgressTracker(4);
        workersAre(small, 1, " of an object made before a larger one");
        workersAre(large, 4, " of an object made after a smaller one");
    }
}
