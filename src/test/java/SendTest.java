/** Promise 2. */
public final class SendTest {
    private static final Check CHECK = new Check();

    public static void main(String[] args) {
        changesOnlyMessagesAndPending();
        everyEdgeAtEveryTime();
        refusesBadArguments();
        refusesWithoutCapability();
        refusesRoundLimit();
        refusesFullPending();
        testsComeInOrder();
        CHECK.end();
    }

    private static void changesOnlyMessagesAndPending() {
        ProgressTracker x = new ProgressTracker(3);
        CHECK.call(x, "send(1, 0, 0, 0)", t -> t.send(1, 0, 0, 0), 0,
            "msgs(1,0,0) 0->1", "pending[1](1,0,0) 0->1");
        CHECK.call(x, "a second send(1, 0, 0, 0)", t -> t.send(1, 0, 0, 0), 0,
            "msgs(1,0,0) 1->2", "pending[1](1,0,0) 1->2");
        CHECK.call(x, "the same of another worker", t -> t.send(2, 0, 0, 0), 0,
            "msgs(1,0,0) 2->3", "pending[2](1,0,0) 0->1");
    }

    private static void everyEdgeAtEveryTime() {
        int[] from = {0, 1, 2, 2};
        int[] to = {1, 2, 1, 3};
        for (int epoch = 0; epoch < 4; epoch++) {
            for (int edge = 0; edge < 4; edge++) {
                int rounds = edge == 0 ? 1 : edge == 2 ? 3 : 4;
                for (int round = 0; round < rounds; round++) {
                    ProgressTracker x = new ProgressTracker(2);
                    for (int e = 0; e < epoch; e++) {
                        Runs.need(x.advanceInput(1, e), 0);
                    }
                    Runs.hold(x, 1, from[edge], epoch, round);
                    Runs.settle(x, 1);
                    String call = "send(1, " + edge + ", " + epoch + ", " + round + ")";
                    int[] args = {edge, epoch, round};
                    String at = "(" + to[edge] + "," + epoch + "," + (edge == 2 ? round + 1 : round) + ")";
                    CHECK.call(x, call, t -> t.send(1, args[0], args[1], args[2]), 0,
                        "msgs" + at + " 0->1", "pending[1]" + at + " 0->1");
                }
            }
        }
    }

    private static void refusesBadArguments() {
        ProgressTracker x = Runs.fullPending(4);
        for (int bad : Check.OUTSIDE) {
            CHECK.call(x, "send(" + bad + ", 1, 0, 0)", t -> t.send(bad, 1, 0, 0), -1);
            CHECK.call(x, "send(0, " + bad + ", 0, 0)", t -> t.send(0, bad, 0, 0), -1);
            CHECK.call(x, "send(0, 1, " + bad + ", 0)", t -> t.send(0, 1, bad, 0), -1);
            CHECK.call(x, "send(0, 1, 0, " + bad + ")", t -> t.send(0, 1, 0, bad), -1);
        }
        CHECK.call(new ProgressTracker(2), "send by worker 2 of 2", t -> t.send(2, 0, 0, 0), -1);
    }

    private static void refusesWithoutCapability() {
        ProgressTracker x = new ProgressTracker(2);
        CHECK.call(x, "send(0, 1, 0, 0)", t -> t.send(0, 1, 0, 0), -2);
        CHECK.call(x, "send(0, 0, 1, 0)", t -> t.send(0, 0, 1, 0), -2);
        CHECK.call(x, "send(0, 0, 0, 1)", t -> t.send(0, 0, 0, 1), -2);
        Runs.need(x.send(0, 0, 0, 0), 0);
        CHECK.call(x, "send from a message that nobody took", t -> t.send(0, 1, 0, 0), -2);
        Runs.need(x.receive(1, 1, 0, 0), 0);
        CHECK.call(x, "send from what another worker holds", t -> t.send(0, 1, 0, 0), -2);
        CHECK.call(x, "send from what the worker holds", t -> t.send(1, 1, 0, 0), 0,
            "msgs(2,0,0) 0->1", "pending[1](2,0,0) 0->1");
        Runs.need(x.drop(1, 1, 0, 0), 0);
        CHECK.call(x, "send from what the worker dropped", t -> t.send(1, 1, 0, 0), -2);
    }

    private static void refusesRoundLimit() {
        ProgressTracker x = new ProgressTracker(1);
        Runs.hold(x, 0, ProgressTracker.BODY, 0, 3);
        CHECK.call(x, "send(0, 2, 0, 3)", t -> t.send(0, 2, 0, 3), -4);
        CHECK.call(x, "send(0, 3, 0, 3)", t -> t.send(0, 3, 0, 3), 0,
            "msgs(3,0,3) 0->1", "pending[0](3,0,3) 0->1");
        CHECK.call(x, "send(0, 1, 0, 3)", t -> t.send(0, 1, 0, 3), 0,
            "msgs(2,0,3) 0->1", "pending[0](2,0,3) 1->2");
    }

    private static void refusesFullPending() {
        ProgressTracker x = Runs.fullPending(2);
        CHECK.call(x, "send to a 17th entry", t -> t.send(0, 3, 1, 0), -6);
        CHECK.call(x, "feedback to a 17th entry", t -> t.send(0, 2, 1, 0), -6);
        CHECK.call(x, "send to an entry that is there", t -> t.send(0, 0, 1, 0), 0,
            "msgs(1,1,0) 0->1", "pending[0](1,1,0) 1->2");
        CHECK.call(x, "send of another worker", t -> t.send(1, 0, 0, 0), 0,
            "msgs(1,0,0) 1->2", "pending[1](1,0,0) 0->1");
        Runs.need(x.drop(0, 2, 0, 3), 0);
        CHECK.call(x, "send to a 16th entry", t -> t.send(0, 3, 1, 0), 0,
            "msgs(3,1,0) 0->1", "pending[0](3,1,0) 0->1");
        CHECK.call(x, "send to a 17th entry again", t -> t.send(0, 2, 1, 0), -6);
        removesAnEntryAtMinusOne();
    }

    private static void removesAnEntryAtMinusOne() {
        ProgressTracker x = new ProgressTracker(1);
        Runs.hold(x, 0, ProgressTracker.HEAD, 0, 3);
        Runs.settle(x, 0);
        Runs.need(x.drop(0, 1, 0, 3), 0);
        int[][] sends = {{0, 0, 0}, {1, 0, 0}, {1, 0, 1}, {1, 0, 2}, {2, 0, 0}, {2, 0, 1}};
        for (int[] s : sends) {
            Runs.need(x.send(0, s[0], s[1], s[2]), 0);
        }
        for (int r = 0; r < 3; r++) {
            Runs.pass(x, 0, 3, 0, r);
        }
        Runs.need(x.advanceInput(0, 0), 0);
        Runs.pass(x, 0, 0, 1, 0);
        Runs.pass(x, 0, 1, 1, 0);
        Runs.pass(x, 0, 3, 1, 0);
        CHECK.due("entries before the last", entries(x), 15);
        Runs.need(x.send(0, 2, 1, 0), 0);
        CHECK.due("entries of a full buffer", entries(x), 16);
        CHECK.call(x, "send to where pending is -1", t -> t.send(0, 2, 0, 2), 0,
            "msgs(1,0,3) 0->1", "pending[0](1,0,3) -1->0");
        CHECK.due("entries after one was removed", entries(x), 15);
        CHECK.call(x, "send to where it is 0 again", t -> t.send(0, 2, 0, 2), 0,
            "msgs(1,0,3) 1->2", "pending[0](1,0,3) 0->1");
        Runs.need(x.receive(0, 1, 1, 1), 0);
        CHECK.call(x, "send to a 17th entry", t -> t.send(0, 1, 1, 1), -6);
    }

    private static int entries(ProgressTracker x) {
        int n = 0;
        for (int p = 0; p < 64; p++) {
            n += x.pendingCount(0, p / 16, p / 4 % 4, p % 4) == 0 ? 0 : 1;
        }
        return n;
    }

    private static void testsComeInOrder() {
        ProgressTracker x = Runs.fullPending(2);
        CHECK.call(x, "bad argument before no capability", t -> t.send(0, 2, 3, 4), -1);
        CHECK.call(x, "no capability before round limit", t -> t.send(1, 2, 0, 3), -2);
        CHECK.call(x, "no capability before full pending", t -> t.send(0, 3, 2, 0), -2);
        CHECK.call(x, "round limit before full pending", t -> t.send(0, 2, 0, 3), -4);
    }
}
