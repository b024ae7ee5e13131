/** Promise 8. A comment in quotes is the sentence of the document that the test below it holds. */
public final class CanReachTest {
    private static final Check CHECK = new Check();

    public static void main(String[] args) {
        workerNotInRange();
        operatorNotInRange();
        epochNotInRange();
        roundNotInRange();
        everythingInRange();
        everyPairOfPointstamps();
        zeroDoesNotReach();
        negativeDoesNotReach();
        looksAtTheWorkersViewAlone();
        anyOfSeveralIsEnough();
        changesNothing();
        CHECK.end();
    }

    /** "w is in range", "Otherwise it answers false." */
    private static void workerNotInRange() {
        for (int workers = 1; workers <= 4; workers++) {
            int all = workers;
            for (int w : Check.outside(workers)) {
                CHECK.changesNothing("canReach(" + w + ", 3, 3, 3) of " + all, () -> Runs.busy(all),
                    t -> t.canReach(w, 3, 3, 3) ? 1 : 0, 0);
            }
        }
    }

    /** "op, epoch and round are each in 0..3" */
    private static void operatorNotInRange() {
        for (int op : Check.OUTSIDE) {
            CHECK.changesNothing("canReach(0, " + op + ", 3, 3)", () -> Runs.busy(2),
                t -> t.canReach(0, op, 3, 3) ? 1 : 0, 0);
        }
    }

    private static void epochNotInRange() {
        for (int epoch : Check.OUTSIDE) {
            CHECK.changesNothing("canReach(0, 3, " + epoch + ", 3)", () -> Runs.busy(2),
                t -> t.canReach(0, 3, epoch, 3) ? 1 : 0, 0);
        }
    }

    /** From BODY, HEAD is reached in round 4 too, but there is no pointstamp of that round. */
    private static void roundNotInRange() {
        for (int round : Check.OUTSIDE) {
            for (int op = 0; op < 4; op++) {
                int at = op;
                CHECK.changesNothing("canReach(0, " + op + ", 3, " + round + ")", () -> Runs.busy(2),
                    t -> t.canReach(0, at, 3, round) ? 1 : 0, 0);
            }
        }
    }

    /** At the start (0,0,0) has a count in every view, and it could result in every pointstamp. */
    private static void everythingInRange() {
        for (int workers = 1; workers <= 4; workers++) {
            ProgressTracker x = new ProgressTracker(workers);
            for (int w = 0; w < 4; w++) {
                for (int p = 0; p < Stamp.COUNT; p++) {
                    boolean got = x.canReach(w, Stamp.op(p), Stamp.epoch(p), Stamp.round(p));
                    CHECK.due("canReach of " + w + " to " + Stamp.name(p), got, w < workers);
                }
            }
        }
    }

    /** "some pointstamp p with view[w][p] > 0 could result in (op,epoch,round)" */
    private static void everyPairOfPointstamps() {
        for (int p = 0; p < Stamp.COUNT; p++) {
            if (!Stamp.canHaveACount(p)) {
                continue;
            }
            reachesWhatItCouldResultIn(Runs.alone(p), 0, p);
        }
    }

    private static void reachesWhatItCouldResultIn(ProgressTracker x, int w, int p) {
        for (int q = 0; q < Stamp.COUNT; q++) {
            boolean want = Graph.couldResultIn(Stamp.op(p), Stamp.epoch(p), Stamp.round(p),
                Stamp.op(q), Stamp.epoch(q), Stamp.round(q));
            boolean got = x.canReach(w, Stamp.op(q), Stamp.epoch(q), Stamp.round(q));
            CHECK.due("canReach from " + Stamp.name(p) + " to " + Stamp.name(q), got, want);
        }
    }

    private static void reachesNothing(ProgressTracker x, int w, String when) {
        for (int p = 0; p < Stamp.COUNT; p++) {
            boolean got = x.canReach(w, Stamp.op(p), Stamp.epoch(p), Stamp.round(p));
            CHECK.due("canReach to " + Stamp.name(p) + " " + when, got, false);
        }
    }

    /** "view[w][p] > 0": at 1 it reaches, at 0 no more. */
    private static void zeroDoesNotReach() {
        for (int workers = 1; workers <= 4; workers++) {
            ProgressTracker x = new ProgressTracker(workers);
            for (int w = 0; w < workers; w++) {
                CHECK.due("canReach with " + (workers - w) + " in the view", x.canReach(0, 3, 0, 0), true);
                Runs.need(x.drop(w, 0, 0, 0), 0);
                CHECK.due("canReach before the broadcast", x.canReach(0, 3, 0, 0), true);
                Runs.settle(x, w);
            }
            CHECK.due("view at the end", x.viewCount(0, 0, 0, 0), 0);
            reachesNothing(x, 0, "with 0 in the view");
        }
    }

    /**
     * Worker 1 hears of the end of a message before it hears of its sending.
     *
     * No run can tell by canReach or by a frontier whether a count below 0 counts, since in the same view a count
     * above 0 could always result in it. For let Q be the pointstamps where some worker s held a capability when it
     * broadcast the last batch that the view knows of it, or later. (1) Take a q of Q that no other of Q could result
     * in. Who sent to q did it from a capability that could result in q; that one isn't in Q, so the view knows of the
     * send. But of the end of what s held at q it does not know. So the count at q is above 0. (2) A count below 0 at
     * p means that the view does not know of some send to p. The capability that it came from is in Q, and could
     * result in p. So a q as in (1) could result in p. (An advance is like a send and a drop.)
     */
    private static void negativeDoesNotReach() {
        ProgressTracker x = new ProgressTracker(2);
        Runs.hold(x, 0, ProgressTracker.HEAD, 0, 0);
        Runs.settle(x, 0);
        Runs.need(x.drop(0, 0, 0, 0), 0);
        Runs.need(x.broadcast(0), 1);
        Runs.need(x.send(0, 1, 0, 0), 0);
        Runs.need(x.receive(1, 2, 0, 0), 0);
        Runs.need(x.drop(1, 2, 0, 0), 0);
        Runs.need(x.drop(1, 0, 0, 0), 0);
        Runs.need(x.broadcast(1), 2);
        Runs.need(x.deliver(0, 1), 1);
        Runs.need(x.deliver(1, 1), 2);
        CHECK.due("view at SOURCE", x.viewCount(1, 0, 0, 0), 0);
        CHECK.due("view at BODY", x.viewCount(1, 2, 0, 0), -1);
        // All that HEAD (0,0) could result in, and not a pointstamp more or less.
        reachesWhatItCouldResultIn(x, 1, Stamp.at(ProgressTracker.HEAD, 0, 0));
        Runs.need(x.drop(0, 1, 0, 0), 0);
        Runs.need(x.broadcast(0), 2);
        reachesWhatItCouldResultIn(x, 1, Stamp.at(ProgressTracker.HEAD, 0, 0));
        Runs.need(x.deliver(0, 1), 2);
        reachesNothing(x, 1, "at the end");
    }

    private static void looksAtTheWorkersViewAlone() {
        ProgressTracker x = new ProgressTracker(3);
        for (int w = 0; w < 3; w++) {
            Runs.need(x.advanceInput(w, 0), 0);
            Runs.need(x.broadcast(w), 2);
        }
        CHECK.due("canReach before any delivery", x.canReach(1, 3, 0, 0), true);
        Runs.need(x.deliver(0, 1), 2);
        Runs.need(x.deliver(1, 1), 2);
        CHECK.due("canReach before the last delivery", x.canReach(1, 3, 0, 0), true);
        Runs.need(x.deliver(2, 1), 2);
        CHECK.due("canReach after the last delivery", x.canReach(1, 3, 0, 3), false);
        CHECK.due("canReach of the next epoch", x.canReach(1, 3, 1, 0), true);
        CHECK.due("canReach of worker 0 without deliveries", x.canReach(0, 3, 0, 0), true);
        CHECK.due("canReach of worker 2 without deliveries", x.canReach(2, 3, 0, 0), true);
        CHECK.due("couldArrive by then", x.couldArrive(3, 0, 3), false);
    }

    private static void anyOfSeveralIsEnough() {
        ProgressTracker x = new ProgressTracker(2);
        Runs.holdAlone(x, 0, ProgressTracker.SINK, 0, 3);
        Runs.settle(x, 0);
        Runs.holdAlone(x, 1, ProgressTracker.BODY, 2, 1);
        Runs.settle(x, 1);
        CHECK.due("canReach(0, 3, 0, 2)", x.canReach(0, 3, 0, 2), false);
        CHECK.due("canReach(0, 3, 0, 3)", x.canReach(0, 3, 0, 3), true);
        CHECK.due("canReach(0, 3, 2, 0)", x.canReach(0, 3, 2, 0), false);
        CHECK.due("canReach(0, 3, 2, 1)", x.canReach(0, 3, 2, 1), true);
        CHECK.due("canReach(0, 1, 2, 1)", x.canReach(0, 1, 2, 1), false);
        CHECK.due("canReach(0, 1, 2, 2)", x.canReach(0, 1, 2, 2), true);
        CHECK.due("canReach(0, 1, 1, 3)", x.canReach(0, 1, 1, 3), false);
    }

    /** "It changes nothing." */
    private static void changesNothing() {
        for (int p = 0; p < Stamp.COUNT; p++) {
            int q = p;
            for (int w = 0; w < 4; w++) {
                int worker = w;
                int want = Runs.busy(4).canReach(w, Stamp.op(p), Stamp.epoch(p), Stamp.round(p)) ? 1 : 0;
                CHECK.changesNothing("canReach of " + w + " to " + Stamp.name(p), () -> Runs.busy(4),
                    t -> t.canReach(worker, Stamp.op(q), Stamp.epoch(q), Stamp.round(q)) ? 1 : 0, want);
            }
        }
    }
}
