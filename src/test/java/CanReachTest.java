/** Promise 8. */
public final class CanReachTest {
    private static final Check CHECK = new Check();

    public static void main(String[] args) {
        everyPairOfPointstamps();
        looksAtTheViewAlone();
        countsBelowOneDoNotReach();
        anyOfSeveralIsEnough();
        badArgumentsAreFalse();
        CHECK.end();
    }

    private static void everyPairOfPointstamps() {
        for (int p = 0; p < 64; p++) {
            int op = p / 16;
            int epoch = p / 4 % 4;
            int round = p % 4;
            if (op == ProgressTracker.SOURCE && round > 0) {
                continue;
            }
            ProgressTracker x = new ProgressTracker(1);
            Runs.holdAlone(x, 0, op, epoch, round);
            Runs.settle(x, 0);
            for (int q = 0; q < 64; q++) {
                String call = "canReach from " + p + " to " + q;
                boolean want = Graph.couldResultIn(op, epoch, round, q / 16, q / 4 % 4, q % 4);
                CHECK.due(call, x.canReach(0, q / 16, q / 4 % 4, q % 4), want);
            }
        }
    }

    private static void looksAtTheViewAlone() {
        ProgressTracker x = new ProgressTracker(3);
        for (int w = 0; w < 3; w++) {
            Runs.need(x.advanceInput(w, 0), 0);
            Runs.need(x.broadcast(w), 2);
        }
        CHECK.due("canReach before any delivery", x.canReach(1, 3, 0, 0), true);
        Runs.need(x.deliver(0, 1), 2);
        Runs.need(x.deliver(1, 1), 2);
        CHECK.due("canReach before the last delivery", x.canReach(1, 3, 0, 0), true);
        Runs.need(x.deliver(2, 1), 2);
        CHECK.due("canReach after the last delivery", x.canReach(1, 3, 0, 3), false);
        CHECK.due("canReach of the next epoch", x.canReach(1, 3, 1, 0), true);
        CHECK.due("canReach of a worker without deliveries", x.canReach(0, 3, 0, 0), true);
        CHECK.due("couldArrive by then", x.couldArrive(3, 0, 3), false);
    }

    /** Worker 1 hears of the end of a message before it hears of its sending. */
    private static void countsBelowOneDoNotReach() {
        ProgressTracker x = new ProgressTracker(2);
        Runs.hold(x, 0, ProgressTracker.HEAD, 0, 0);
        Runs.settle(x, 0);
        Runs.need(x.drop(0, 0, 0, 0), 0);
        Runs.need(x.broadcast(0), 1);
        Runs.need(x.send(0, 1, 0, 0), 0);
        Runs.need(x.receive(1, 2, 0, 0), 0);
        Runs.need(x.drop(1, 2, 0, 0), 0);
        Runs.need(x.drop(1, 0, 0, 0), 0);
        Runs.need(x.broadcast(1), 2);
        Runs.need(x.deliver(0, 1), 1);
        Runs.need(x.deliver(1, 1), 2);
        CHECK.due("view at SOURCE", x.viewCount(1, 0, 0, 0), 0);
        CHECK.due("view at BODY", x.viewCount(1, 2, 0, 0), -1);
        CHECK.due("canReach(1, 0, 3, 3) by SOURCE", x.canReach(1, 0, 3, 3), false);
        CHECK.due("canReach(1, 2, 0, 0) by HEAD", x.canReach(1, 2, 0, 0), true);
        Runs.need(x.drop(0, 1, 0, 0), 0);
        Runs.need(x.broadcast(0), 2);
        CHECK.due("canReach(1, 1, 0, 0) by HEAD", x.canReach(1, 1, 0, 0), true);
        Runs.need(x.deliver(0, 1), 2);
        CHECK.due("canReach(1, 3, 3, 3) at the end", x.canReach(1, 3, 3, 3), false);
    }

    private static void anyOfSeveralIsEnough() {
        ProgressTracker x = new ProgressTracker(2);
        Runs.holdAlone(x, 0, ProgressTracker.SINK, 0, 3);
        Runs.settle(x, 0);
        Runs.holdAlone(x, 1, ProgressTracker.BODY, 2, 1);
        Runs.settle(x, 1);
        CHECK.due("canReach(0, 3, 0, 2)", x.canReach(0, 3, 0, 2), false);
        CHECK.due("canReach(0, 3, 0, 3)", x.canReach(0, 3, 0, 3), true);
        CHECK.due("canReach(0, 3, 2, 0)", x.canReach(0, 3, 2, 0), false);
        CHECK.due("canReach(0, 3, 2, 1)", x.canReach(0, 3, 2, 1), true);
        CHECK.due("canReach(0, 1, 2, 1)", x.canReach(0, 1, 2, 1), false);
        CHECK.due("canReach(0, 1, 2, 2)", x.canReach(0, 1, 2, 2), true);
        CHECK.due("canReach(0, 1, 1, 3)", x.canReach(0, 1, 1, 3), false);
    }

    private static void badArgumentsAreFalse() {
        ProgressTracker x = new ProgressTracker(4);
        for (int bad : Check.OUTSIDE) {
            CHECK.due("canReach(" + bad + ", 3, 3, 3)", x.canReach(bad, 3, 3, 3), false);
            CHECK.due("canReach(0, " + bad + ", 3, 3)", x.canReach(0, bad, 3, 3), false);
            CHECK.due("canReach(0, 3, " + bad + ", 3)", x.canReach(0, 3, bad, 3), false);
            CHECK.due("canReach(0, 3, 3, " + bad + ")", x.canReach(0, 3, 3, bad), false);
            int as = bad;
            CHECK.call(x, "canReach", t -> t.canReach(as, as, as, as) ? 1 : 0, 0);
        }
        CHECK.call(x, "canReach(3, 3, 3, 3)", t -> t.canReach(3, 3, 3, 3) ? 1 : 0, 1);
        CHECK.due("canReach by worker 2 of 2", new ProgressTracker(2).canReach(2, 0, 0, 0), false);
    }
}
