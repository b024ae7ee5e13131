/** Promise 7. */
public final class DeliverTest {
    private static final Check CHECK = new Check();

    public static void main(String[] args) {
        changesOnlyOneViewAndOneChannel();
        oldestBatchFirst();
        viewsMayBeNegative();
        channelsOutliveManyBatches();
        everyChannelFull();
        refuses();
        CHECK.end();
    }

    private static void changesOnlyOneViewAndOneChannel() {
        ProgressTracker x = new ProgressTracker(4);
        Runs.need(x.advanceInput(2, 0), 0);
        Runs.need(x.send(2, 0, 1, 0), 0);
        Runs.need(x.broadcast(2), 3);
        Runs.need(x.send(2, 0, 1, 0), 0);
        for (int r = 0; r < 4; r++) {
            int to = r;
            String view = "view[" + r + "]";
            CHECK.call(x, "deliver(2, " + r + ")", t -> t.deliver(2, to), 3, "queue[2][" + r + "] 1->0",
                view + "(0,0,0) 4->3", view + "(0,1,0) 0->1", view + "(1,1,0) 0->1");
            CHECK.call(x, "deliver(2, " + r + ") again", t -> t.deliver(2, to), -8);
        }
    }

    private static void oldestBatchFirst() {
        ProgressTracker x = new ProgressTracker(2);
        Runs.need(x.send(0, 0, 0, 0), 0);
        Runs.need(x.broadcast(0), 1);
        Runs.need(x.advanceInput(0, 0), 0);
        Runs.need(x.send(0, 0, 1, 0), 0);
        Runs.need(x.send(0, 0, 1, 0), 0);
        Runs.need(x.broadcast(0), 3);
        Runs.need(x.drop(0, 0, 1, 0), 0);
        Runs.need(x.receive(0, 1, 0, 0), 0);
        Runs.need(x.drop(0, 1, 0, 0), 0);
        Runs.need(x.broadcast(0), 2);
        CHECK.call(x, "the first deliver(0, 1)", t -> t.deliver(0, 1), 1,
            "queue[0][1] 3->2", "view[1](1,0,0) 0->1");
        CHECK.call(x, "the second deliver(0, 1)", t -> t.deliver(0, 1), 3,
            "queue[0][1] 2->1", "view[1](0,0,0) 2->1", "view[1](0,1,0) 0->1", "view[1](1,1,0) 0->2");
        Runs.need(x.send(1, 0, 0, 0), 0);
        Runs.need(x.broadcast(1), 1);
        CHECK.call(x, "the third deliver(0, 1)", t -> t.deliver(0, 1), 2,
            "queue[0][1] 1->0", "view[1](0,1,0) 1->0", "view[1](1,0,0) 1->0");
        CHECK.call(x, "deliver(1, 0) in between", t -> t.deliver(1, 0), 1,
            "queue[1][0] 1->0", "view[0](1,0,0) 0->1");
        CHECK.call(x, "the first deliver(0, 0)", t -> t.deliver(0, 0), 1,
            "queue[0][0] 3->2", "view[0](1,0,0) 1->2");
    }

    private static void viewsMayBeNegative() {
        ProgressTracker x = new ProgressTracker(2);
        for (int i = 0; i < 3; i++) {
            Runs.need(x.send(0, 0, 0, 0), 0);
            Runs.need(x.receive(1, 1, 0, 0), 0);
            Runs.need(x.drop(1, 1, 0, 0), 0);
        }
        Runs.need(x.broadcast(1), 1);
        Runs.need(x.broadcast(0), 1);
        CHECK.call(x, "deliver(1, 0)", t -> t.deliver(1, 0), 1, "queue[1][0] 1->0", "view[0](1,0,0) 0->-3");
        CHECK.call(x, "deliver(0, 0)", t -> t.deliver(0, 0), 1, "queue[0][0] 1->0", "view[0](1,0,0) -3->0");
    }

    /** The sizes 1, 2 and 3 in turn make batches begin at every place of a channel. */
    private static void channelsOutliveManyBatches() {
        ProgressTracker x = new ProgressTracker(1);
        Runs.hold(x, 0, ProgressTracker.SINK, 0, 0);
        Runs.settle(x, 0);
        int shipped = 0;
        int taken = 0;
        for (int i = 0; i < 300; i++) {
            Runs.need(x.send(0, 0, 0, 0), 0);
            if (shipped % 3 > 0) {
                Runs.need(x.send(0, 1, 0, 0), 0);
            }
            if (shipped % 3 > 1) {
                Runs.need(x.send(0, 3, 0, 0), 0);
            }
            Runs.need(x.broadcast(0), shipped % 3 + 1);
            shipped++;
            if (shipped - taken == 15) {
                for (int k = 0; k < 1 + i % 14; k++) {
                    CHECK.due("deliver of batch " + taken, x.deliver(0, 0), taken % 3 + 1);
                    taken++;
                    CHECK.due("HEAD after batch " + taken, x.viewCount(0, 1, 0, 0), 1 + taken);
                    CHECK.due("BODY after batch " + taken, x.viewCount(0, 2, 0, 0), 1 + taken - (taken + 2) / 3);
                    CHECK.due("SINK after batch " + taken, x.viewCount(0, 3, 0, 0), 1 + taken / 3);
                    CHECK.due("batches left after batch " + taken, x.queuedBatches(0, 0), shipped - taken);
                }
            }
        }
    }

    private static void everyChannelFull() {
        ProgressTracker x = new ProgressTracker(4);
        for (int s = 0; s < 4; s++) {
            Runs.oneEntryBatches(x, s, 0, 32);
        }
        for (int s = 3; s >= 0; s--) {
            for (int r = 3; r >= 0; r--) {
                for (int i = 0; i < 32; i++) {
                    CHECK.due("deliver(" + s + ", " + r + ")", x.deliver(s, r), 1);
                }
                CHECK.due("deliver(" + s + ", " + r + ") at the end", x.deliver(s, r), -8);
                CHECK.due("view of " + r + " after " + s, x.viewCount(r, 1, 0, 0), 32 * (4 - s));
            }
        }
    }

    private static void refuses() {
        ProgressTracker x = new ProgressTracker(4);
        Runs.need(x.send(0, 0, 0, 0), 0);
        CHECK.call(x, "deliver of what is not broadcast", t -> t.deliver(0, 0), -8);
        Runs.need(x.broadcast(0), 1);
        for (int bad : Check.OUTSIDE) {
            CHECK.call(x, "deliver(" + bad + ", 0)", t -> t.deliver(bad, 0), -1);
            CHECK.call(x, "deliver(0, " + bad + ")", t -> t.deliver(0, bad), -1);
        }
        CHECK.call(x, "deliver(1, 0)", t -> t.deliver(1, 0), -8);
        ProgressTracker two = new ProgressTracker(2);
        CHECK.call(two, "deliver to worker 2 of 2", t -> t.deliver(0, 2), -1);
        CHECK.call(two, "deliver from worker 2 of 2", t -> t.deliver(2, 0), -1);
    }
}
