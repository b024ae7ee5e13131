/** Promise 4. */
public final class DropTest {
    private static final Check CHECK = new Check();

    public static void main(String[] args) {
        changesOnlyCapabilitiesAndPending();
        refuses();
        refusesFullPending();
        anothersBufferDoesNotMatter();
        CHECK.end();
    }

    private static void changesOnlyCapabilitiesAndPending() {
        ProgressTracker x = new ProgressTracker(3);
        CHECK.call(x, "drop(2, 0, 0, 0)", t -> t.drop(2, 0, 0, 0), 0,
            "caps[2](0,0,0) 1->0", "pending[2](0,0,0) 0->-1");
        CHECK.call(x, "a second drop(2, 0, 0, 0)", t -> t.drop(2, 0, 0, 0), -2);
        Runs.hold(x, 1, 3, 0, 2);
        CHECK.call(x, "drop of what was sent and received", t -> t.drop(1, 3, 0, 2), 0,
            "caps[1](3,0,2) 1->0", "pending[1](3,0,2) 1->0");
        Runs.pass(x, 1, 3, 0, 2);
        Runs.pass(x, 1, 3, 0, 2);
        CHECK.call(x, "drop of one of two", t -> t.drop(1, 3, 0, 2), 0,
            "caps[1](3,0,2) 2->1", "pending[1](3,0,2) 2->1");
        Runs.settle(x, 1);
        Runs.need(x.send(1, 3, 0, 2), 0);
        CHECK.call(x, "drop with a message at the same place", t -> t.drop(1, 3, 0, 2), 0,
            "caps[1](3,0,2) 1->0", "pending[1](3,0,2) 1->0");
    }

    private static void refuses() {
        ProgressTracker x = new ProgressTracker(4);
        for (int bad : Check.OUTSIDE) {
            CHECK.call(x, "drop(" + bad + ", 0, 0, 0)", t -> t.drop(bad, 0, 0, 0), -1);
            CHECK.call(x, "drop(0, " + bad + ", 0, 0)", t -> t.drop(0, bad, 0, 0), -1);
            CHECK.call(x, "drop(0, 0, " + bad + ", 0)", t -> t.drop(0, 0, bad, 0), -1);
            CHECK.call(x, "drop(0, 0, 0, " + bad + ")", t -> t.drop(0, 0, 0, bad), -1);
        }
        CHECK.call(x, "drop(0, 1, 0, 0)", t -> t.drop(0, 1, 0, 0), -2);
        Runs.need(x.send(0, 0, 0, 0), 0);
        CHECK.call(x, "drop of a message", t -> t.drop(0, 1, 0, 0), -2);
        Runs.need(x.receive(1, 1, 0, 0), 0);
        CHECK.call(x, "drop of another worker's capability", t -> t.drop(0, 1, 0, 0), -2);
        CHECK.call(x, "drop of what another worker sent", t -> t.drop(1, 1, 0, 0), 0,
            "caps[1](1,0,0) 1->0", "pending[1](1,0,0) 0->-1");
        CHECK.call(new ProgressTracker(2), "drop by worker 2 of 2", t -> t.drop(2, 0, 0, 0), -1);
    }

    private static void refusesFullPending() {
        ProgressTracker x = Runs.fullPending(2);
        Runs.hold(x, 1, 1, 0, 0);
        Runs.need(x.advanceInput(1, 0), 0);
        Runs.need(x.advanceInput(1, 1), 0);
        Runs.need(x.send(1, 0, 2, 0), 0);
        Runs.need(x.send(1, 0, 2, 0), 0);
        Runs.need(x.receive(0, 1, 2, 0), 0);
        CHECK.call(x, "drop to a 17th entry", t -> t.drop(0, 1, 2, 0), -6);
        CHECK.call(x, "no capability before full pending", t -> t.drop(0, 3, 3, 3), -2);
        CHECK.call(x, "bad argument before full pending", t -> t.drop(0, 1, 2, 4), -1);
        CHECK.call(x, "drop that removes an entry", t -> t.drop(0, 3, 0, 3), 0,
            "caps[0](3,0,3) 1->0", "pending[0](3,0,3) 1->0");
        CHECK.call(x, "drop to a 16th entry", t -> t.drop(0, 1, 2, 0), 0,
            "caps[0](1,2,0) 1->0", "pending[0](1,2,0) 0->-1");
        Runs.need(x.receive(0, 1, 2, 0), 0);
        CHECK.call(x, "drop at an entry below 0 of a full buffer", t -> t.drop(0, 1, 2, 0), 0,
            "caps[0](1,2,0) 1->0", "pending[0](1,2,0) -1->-2");
        Runs.need(x.receive(0, 1, 0, 0), 0);
        CHECK.call(x, "drop at an entry of 2 of a full buffer", t -> t.drop(0, 1, 0, 0), 0,
            "caps[0](1,0,0) 2->1", "pending[0](1,0,0) 2->1");
    }

    private static void anothersBufferDoesNotMatter() {
        ProgressTracker x = Runs.fullPending(2);
        CHECK.call(x, "drop beside another's full buffer", t -> t.drop(1, 0, 0, 0), 0,
            "caps[1](0,0,0) 1->0", "pending[1](0,0,0) 0->-1");
    }
}
