/** Promise 6. */
public final class BroadcastTest {
    private static final Check CHECK = new Check();

    public static void main(String[] args) {
        shipsTheWholeBufferToEveryWorker();
        shipsAFullBuffer();
        refuses();
        oneChannelIsFull();
        capacityCountsEntriesOfAllBatches();
        capacityAtTheEdge();
        CHECK.end();
    }

    private static void shipsTheWholeBufferToEveryWorker() {
        ProgressTracker x = new ProgressTracker(3);
        Runs.need(x.send(1, 0, 0, 0), 0);
        Runs.need(x.send(1, 0, 0, 0), 0);
        Runs.need(x.advanceInput(1, 0), 0);
        Runs.need(x.send(0, 0, 0, 0), 0);
        CHECK.call(x, "broadcast(1)", t -> t.broadcast(1), 3,
            "pending[1](0,0,0) -1->0", "pending[1](0,1,0) 1->0", "pending[1](1,0,0) 2->0",
            "queue[1][0] 0->1", "queue[1][1] 0->1", "queue[1][2] 0->1");
        CHECK.call(x, "broadcast(1) with nothing new", t -> t.broadcast(1), -8);
        Runs.need(x.send(1, 0, 1, 0), 0);
        CHECK.call(x, "broadcast(1) of one more", t -> t.broadcast(1), 1,
            "pending[1](1,1,0) 1->0", "queue[1][0] 1->2", "queue[1][1] 1->2", "queue[1][2] 1->2");
        CHECK.call(x, "broadcast(0)", t -> t.broadcast(0), 1,
            "pending[0](1,0,0) 1->0", "queue[0][0] 0->1", "queue[0][1] 0->1", "queue[0][2] 0->1");
        for (int r = 0; r < 3; r++) {
            int to = r;
            String view = "view[" + r + "]";
            CHECK.call(x, "deliver(1, " + r + ")", t -> t.deliver(1, to), 3, "queue[1][" + r + "] 2->1",
                view + "(0,0,0) 3->2", view + "(0,1,0) 0->1", view + "(1,0,0) 0->2");
        }
    }

    private static void shipsAFullBuffer() {
        ProgressTracker x = Runs.fullPending(1);
        CHECK.due("broadcast of a full buffer", x.broadcast(0), 16);
        CHECK.due("deliver of a full buffer", x.deliver(0, 0), 16);
        CHECK.due("view at the first entry", x.viewCount(0, 0, 0, 0), 0);
        CHECK.due("view at an entry of 2", x.viewCount(0, 1, 0, 0), 2);
        CHECK.due("view at the last entry", x.viewCount(0, 3, 0, 3), 1);
    }

    private static void refuses() {
        ProgressTracker x = new ProgressTracker(4);
        CHECK.call(x, "broadcast with nothing pending", t -> t.broadcast(0), -8);
        Runs.need(x.send(0, 0, 0, 0), 0);
        CHECK.call(x, "broadcast with another's pending", t -> t.broadcast(1), -8);
        for (int bad : Check.OUTSIDE) {
            CHECK.call(x, "broadcast(" + bad + ")", t -> t.broadcast(bad), -1);
        }
        Runs.need(x.receive(0, 1, 0, 0), 0);
        Runs.need(x.drop(0, 1, 0, 0), 0);
        CHECK.call(x, "broadcast of changes that cancelled", t -> t.broadcast(0), -8);
        CHECK.call(new ProgressTracker(2), "broadcast by worker 2 of 2", t -> t.broadcast(2), -1);
    }

    private static void oneChannelIsFull() {
        for (int slow = 0; slow < 3; slow++) {
            ProgressTracker x = new ProgressTracker(3);
            Runs.oneEntryBatches(x, 1, 0, 32);
            for (int r = 0; r < 3; r++) {
                for (int i = 0; r != slow && i < 32; i++) {
                    Runs.need(x.deliver(1, r), 1);
                }
            }
            Runs.need(x.send(1, 0, 0, 0), 0);
            CHECK.call(x, "broadcast with channel (1," + slow + ") full", t -> t.broadcast(1), -7);
            Runs.need(x.send(0, 0, 0, 0), 0);
            CHECK.due("broadcast of another sender", x.broadcast(0), 1);
            Runs.need(x.deliver(1, slow), 1);
            CHECK.due("broadcast with room for one", x.broadcast(1), 1);
            CHECK.due("batches of the full channel", x.queuedBatches(1, slow), 32);
        }
        emptyComesBeforeFull();
    }

    private static void emptyComesBeforeFull() {
        ProgressTracker x = new ProgressTracker(1);
        Runs.oneEntryBatches(x, 0, 0, 32);
        CHECK.call(x, "broadcast of nothing into a full channel", t -> t.broadcast(0), -8);
    }

    private static void capacityCountsEntriesOfAllBatches() {
        ProgressTracker x = Runs.fullPending(1);
        Runs.need(x.broadcast(0), 16);
        Runs.oneEntryBatches(x, 0, 1, 16);
        Runs.need(x.send(0, 0, 1, 0), 0);
        CHECK.call(x, "broadcast of a 33rd entry", t -> t.broadcast(0), -7);
        CHECK.due("deliver of the oldest", x.deliver(0, 0), 16);
        CHECK.due("broadcast after it", x.broadcast(0), 1);
        CHECK.due("batches after it", x.queuedBatches(0, 0), 17);
    }

    private static void capacityAtTheEdge() {
        for (int waiting = 14; waiting <= 18; waiting++) {
            ProgressTracker x = new ProgressTracker(2);
            Runs.oneEntryBatches(x, 1, 0, waiting);
            Runs.hold(x, 1, ProgressTracker.SINK, 0, 3);
            Runs.need(x.send(1, 3, 0, 0), 0);
            Runs.need(x.send(1, 3, 0, 1), 0);
            Runs.need(x.send(1, 3, 0, 2), 0);
            Runs.need(x.advanceInput(1, 0), 0);
            Runs.need(x.send(1, 0, 1, 0), 0);
            int want = waiting + 15 <= 32 ? 15 : -7;
            CHECK.due("broadcast of 15 onto " + waiting, x.broadcast(1), want);
            CHECK.due("batches after it", x.queuedBatches(1, 0), want == 15 ? waiting + 1 : waiting);
        }
    }
}
