/** Promise 5. */
public final class AdvanceInputTest {
    private static final Check CHECK = new Check();

    public static void main(String[] args) {
        replacesOneCapability();
        refuses();
        refusesFullPending();
        countsBothChangesTogether();
        testsComeInOrder();
        CHECK.end();
    }

    private static void replacesOneCapability() {
        ProgressTracker x = new ProgressTracker(3);
        CHECK.call(x, "advanceInput(1, 0)", t -> t.advanceInput(1, 0), 0,
            "caps[1](0,0,0) 1->0", "caps[1](0,1,0) 0->1",
            "pending[1](0,0,0) 0->-1", "pending[1](0,1,0) 0->1");
        CHECK.call(x, "advanceInput(1, 0) again", t -> t.advanceInput(1, 0), -2);
        CHECK.call(x, "advanceInput(1, 1)", t -> t.advanceInput(1, 1), 0,
            "caps[1](0,1,0) 1->0", "caps[1](0,2,0) 0->1",
            "pending[1](0,1,0) 1->0", "pending[1](0,2,0) 0->1");
        Runs.settle(x, 1);
        CHECK.call(x, "advanceInput(1, 2)", t -> t.advanceInput(1, 2), 0,
            "caps[1](0,2,0) 1->0", "caps[1](0,3,0) 0->1",
            "pending[1](0,2,0) 0->-1", "pending[1](0,3,0) 0->1");
        CHECK.call(x, "advanceInput(1, 3)", t -> t.advanceInput(1, 3), -5);
        CHECK.call(x, "advanceInput(2, 0)", t -> t.advanceInput(2, 0), 0,
            "caps[2](0,0,0) 1->0", "caps[2](0,1,0) 0->1",
            "pending[2](0,0,0) 0->-1", "pending[2](0,1,0) 0->1");
    }

    private static void refuses() {
        ProgressTracker x = new ProgressTracker(4);
        for (int bad : Check.OUTSIDE) {
            CHECK.call(x, "advanceInput(" + bad + ", 0)", t -> t.advanceInput(bad, 0), -1);
            CHECK.call(x, "advanceInput(0, " + bad + ")", t -> t.advanceInput(0, bad), -1);
        }
        CHECK.call(x, "advanceInput(0, 1)", t -> t.advanceInput(0, 1), -2);
        Runs.need(x.drop(0, 0, 0, 0), 0);
        CHECK.call(x, "advanceInput after drop", t -> t.advanceInput(0, 0), -2);
        CHECK.call(new ProgressTracker(3), "advanceInput by worker 3 of 3", t -> t.advanceInput(3, 0), -1);
    }

    private static void refusesFullPending() {
        CHECK.call(filled(16), "an advance to a 17th and 18th entry", t -> t.advanceInput(0, 1), -6);
        CHECK.call(filled(15), "an advance to a 16th and 17th entry", t -> t.advanceInput(0, 1), -6);
        CHECK.call(filled(14), "an advance to a 15th and 16th entry", t -> t.advanceInput(0, 1), 0,
            "caps[0](0,1,0) 1->0", "caps[0](0,2,0) 0->1",
            "pending[0](0,1,0) 0->-1", "pending[0](0,2,0) 0->1");
    }

    /** Worker 0 at epoch 1 with this many pending entries, 12 at least, and none of them at SOURCE. */
    private static ProgressTracker filled(int entries) {
        ProgressTracker x = new ProgressTracker(2);
        Runs.need(x.advanceInput(0, 0), 0);
        Runs.settle(x, 0);
        Runs.hold(x, 0, ProgressTracker.BODY, 1, 3);
        for (int round = 0; round < 4; round++) {
            Runs.need(x.send(0, 3, 1, round), 0);
        }
        Runs.hold(x, 1, ProgressTracker.SINK, 0, 3);
        for (int i = 12; i < entries; i++) {
            Runs.need(x.send(1, 3, 0, i - 12), 0);
            Runs.need(x.receive(0, 3, 0, i - 12), 0);
            Runs.need(x.drop(0, 3, 0, i - 12), 0);
        }
        return x;
    }

    private static void countsBothChangesTogether() {
        CHECK.call(Runs.fullPending(1), "an advance that frees one entry and takes one", t -> t.advanceInput(0, 1), 0,
            "caps[0](0,1,0) 1->0", "caps[0](0,2,0) 0->1",
            "pending[0](0,1,0) 1->0", "pending[0](0,2,0) 0->1");
    }

    private static void testsComeInOrder() {
        ProgressTracker x = Runs.fullPending(1);
        CHECK.call(x, "bad argument before no capability", t -> t.advanceInput(1, 3), -1);
        CHECK.call(x, "no capability before epoch limit", t -> t.advanceInput(0, 3), -2);
        CHECK.call(x, "no capability before full pending", t -> t.advanceInput(0, 2), -2);
        Runs.need(x.advanceInput(0, 1), 0);
        Runs.need(x.advanceInput(0, 2), 0);
        CHECK.call(x, "epoch limit with a full buffer", t -> t.advanceInput(0, 3), -5);
    }
}
