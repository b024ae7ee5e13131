/** Promise 3. */
public final class ReceiveTest {
    private static final Check CHECK = new Check();

    public static void main(String[] args) {
        changesOnlyMessagesAndCapabilities();
        anyWorkerMayTakeIt();
        needsNoPendingEntry();
        refuses();
        CHECK.end();
    }

    private static void changesOnlyMessagesAndCapabilities() {
        ProgressTracker x = new ProgressTracker(2);
        Runs.need(x.send(0, 0, 0, 0), 0);
        Runs.need(x.send(0, 0, 0, 0), 0);
        CHECK.call(x, "receive(0, 1, 0, 0)", t -> t.receive(0, 1, 0, 0), 0,
            "caps[0](1,0,0) 0->1", "msgs(1,0,0) 2->1");
        CHECK.call(x, "a second receive(0, 1, 0, 0)", t -> t.receive(0, 1, 0, 0), 0,
            "caps[0](1,0,0) 1->2", "msgs(1,0,0) 1->0");
        CHECK.call(x, "a third receive(0, 1, 0, 0)", t -> t.receive(0, 1, 0, 0), -3);
    }

    private static void anyWorkerMayTakeIt() {
        ProgressTracker x = new ProgressTracker(4);
        Runs.need(x.send(0, 0, 0, 0), 0);
        CHECK.call(x, "receive by another worker", t -> t.receive(3, 1, 0, 0), 0,
            "caps[3](1,0,0) 0->1", "msgs(1,0,0) 1->0");
        Runs.need(x.send(3, 1, 0, 0), 0);
        Runs.need(x.broadcast(3), 1);
        CHECK.call(x, "receive of what waits in channels", t -> t.receive(1, 2, 0, 0), 0,
            "caps[1](2,0,0) 0->1", "msgs(2,0,0) 1->0");
    }

    private static void needsNoPendingEntry() {
        ProgressTracker x = Runs.fullPending(2);
        Runs.need(x.send(1, 0, 0, 0), 0);
        CHECK.call(x, "receive with a full buffer", t -> t.receive(0, 1, 0, 0), 0,
            "caps[0](1,0,0) 1->2", "msgs(1,0,0) 2->1");
        Runs.hold(x, 1, 3, 0, 0);
        Runs.need(x.advanceInput(1, 0), 0);
        Runs.need(x.advanceInput(1, 1), 0);
        Runs.need(x.send(1, 0, 2, 0), 0);
        CHECK.call(x, "receive with a full buffer that has no entry there", t -> t.receive(0, 1, 2, 0), 0,
            "caps[0](1,2,0) 0->1", "msgs(1,2,0) 1->0");
    }

    private static void refuses() {
        ProgressTracker x = new ProgressTracker(4);
        Runs.need(x.send(0, 0, 0, 0), 0);
        for (int bad : Check.OUTSIDE) {
            CHECK.call(x, "receive(" + bad + ", 1, 0, 0)", t -> t.receive(bad, 1, 0, 0), -1);
            CHECK.call(x, "receive(0, " + bad + ", 0, 0)", t -> t.receive(0, bad, 0, 0), -1);
            CHECK.call(x, "receive(0, 1, " + bad + ", 0)", t -> t.receive(0, 1, bad, 0), -1);
            CHECK.call(x, "receive(0, 1, 0, " + bad + ")", t -> t.receive(0, 1, 0, bad), -1);
        }
        CHECK.call(x, "receive where only a capability is", t -> t.receive(0, 0, 0, 0), -3);
        CHECK.call(x, "receive at a later round", t -> t.receive(0, 1, 0, 1), -3);
        CHECK.call(x, "receive at a later epoch", t -> t.receive(0, 1, 1, 0), -3);
        CHECK.call(x, "receive at another operator", t -> t.receive(0, 2, 0, 0), -3);
        ProgressTracker two = new ProgressTracker(2);
        Runs.need(two.send(0, 0, 0, 0), 0);
        CHECK.call(two, "receive by worker 2 of 2", t -> t.receive(2, 1, 0, 0), -1);
    }
}
