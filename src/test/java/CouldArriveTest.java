/** Promise 9. A comment in quotes is the sentence of the document that the test below it holds. */
public final class CouldArriveTest {
    private static final Check CHECK = new Check();

    public static void main(String[] args) {
        operatorNotInRange();
        epochNotInRange();
        roundNotInRange();
        everythingInRange();
        everyPairFromACapability();
        everyPairFromAMessage();
        everyWorkersCapabilitiesCount();
        receivedAndDropped();
        looksAtTheTruthAlone();
        changesNothing();
        CHECK.end();
    }

    /** "op, epoch and round are each in 0..3", "Otherwise it answers false." */
    private static void operatorNotInRange() {
        for (int op : Check.OUTSIDE) {
            CHECK.changesNothing("couldArrive(" + op + ", 3, 3)", () -> Runs.busy(2),
                t -> t.couldArrive(op, 3, 3) ? 1 : 0, 0);
        }
    }

    private static void epochNotInRange() {
        for (int epoch : Check.OUTSIDE) {
            CHECK.changesNothing("couldArrive(3, " + epoch + ", 3)", () -> Runs.busy(2),
                t -> t.couldArrive(3, epoch, 3) ? 1 : 0, 0);
        }
    }

    private static void roundNotInRange() {
        for (int round : Check.OUTSIDE) {
            for (int op = 0; op < 4; op++) {
                int at = op;
                CHECK.changesNothing("couldArrive(" + op + ", 3, " + round + ")", () -> Runs.busy(2),
                    t -> t.couldArrive(at, 3, round) ? 1 : 0, 0);
            }
        }
    }

    private static void everythingInRange() {
        for (int workers = 1; workers <= 4; workers++) {
            arrivesWhereItCouldResultIn(new ProgressTracker(workers), 0, "at the start");
        }
    }

    private static void arrivesWhereItCouldResultIn(ProgressTracker x, int p, String when) {
        for (int q = 0; q < Stamp.COUNT; q++) {
            boolean want = Graph.couldResultIn(Stamp.op(p), Stamp.epoch(p), Stamp.round(p),
                Stamp.op(q), Stamp.epoch(q), Stamp.round(q));
            boolean got = x.couldArrive(Stamp.op(q), Stamp.epoch(q), Stamp.round(q));
            CHECK.due("couldArrive from " + Stamp.name(p) + " at " + Stamp.name(q) + " " + when, got, want);
        }
    }

    private static void nothingCouldArrive(ProgressTracker x, String when) {
        for (int q = 0; q < Stamp.COUNT; q++) {
            boolean got = x.couldArrive(Stamp.op(q), Stamp.epoch(q), Stamp.round(q));
            CHECK.due("couldArrive at " + Stamp.name(q) + " " + when, got, false);
        }
    }

    /** "some pointstamp p with OCC(p) > 0 could result in (op,epoch,round)" */
    private static void everyPairFromACapability() {
        for (int p = 0; p < Stamp.COUNT; p++) {
            if (!Stamp.canHaveACount(p)) {
                continue;
            }
            ProgressTracker x = new ProgressTracker(1);
            Runs.holdAlone(x, 0, Stamp.op(p), Stamp.epoch(p), Stamp.round(p));
            arrivesWhereItCouldResultIn(x, p, "by a capability");
            Runs.dropAt(x, 0, p);
            nothingCouldArrive(x, "with 0 left of a capability");
        }
    }

    /** The same for OCC(p) that is msgs[p] alone. */
    private static void everyPairFromAMessage() {
        int[] before = {0, 1, 2, 2};
        for (int p = Stamp.FIRST_OF_HEAD; p < Stamp.COUNT; p++) {
            int from = Stamp.at(before[Runs.edgeTo(p)], Stamp.epoch(p), Runs.roundBefore(p));
            ProgressTracker x = new ProgressTracker(1);
            Runs.holdAlone(x, 0, Stamp.op(from), Stamp.epoch(from), Stamp.round(from));
            Runs.sendTo(x, 0, p);
            Runs.dropAt(x, 0, from);
            arrivesWhereItCouldResultIn(x, p, "by a message");
            Runs.need(x.receive(0, Stamp.op(p), Stamp.epoch(p), Stamp.round(p)), 0);
            arrivesWhereItCouldResultIn(x, p, "by a message received");
            Runs.dropAt(x, 0, p);
            nothingCouldArrive(x, "with 0 left of a message");
        }
    }

    /** "the sum over all workers w of caps[w][p]" */
    private static void everyWorkersCapabilitiesCount() {
        for (int workers = 1; workers <= 4; workers++) {
            for (int last = 0; last < workers; last++) {
                ProgressTracker x = new ProgressTracker(workers);
                for (int w = 0; w < workers; w++) {
                    if (w != last) {
                        Runs.need(x.drop(w, 0, 0, 0), 0);
                    }
                }
                arrivesWhereItCouldResultIn(x, 0, "by worker " + last + " of " + workers);
                Runs.need(x.drop(last, 0, 0, 0), 0);
                nothingCouldArrive(x, "by none of " + workers);
            }
        }
    }

    private static void receivedAndDropped() {
        ProgressTracker x = new ProgressTracker(1);
        Runs.holdAlone(x, 0, ProgressTracker.BODY, 1, 1);
        Runs.need(x.send(0, 2, 1, 1), 0);
        Runs.need(x.drop(0, 2, 1, 1), 0);
        CHECK.due("couldArrive at BODY before the message", x.couldArrive(2, 1, 1), false);
        CHECK.due("couldArrive at BODY after the message", x.couldArrive(2, 1, 2), true);
        CHECK.due("couldArrive at HEAD in an earlier epoch", x.couldArrive(1, 0, 2), false);
        Runs.need(x.receive(0, 1, 1, 2), 0);
        CHECK.due("couldArrive from a message received", x.couldArrive(2, 1, 2), true);
        Runs.need(x.drop(0, 1, 1, 2), 0);
        CHECK.due("couldArrive with nothing left", x.couldArrive(3, 3, 3), false);
    }

    private static void looksAtTheTruthAlone() {
        ProgressTracker x = new ProgressTracker(2);
        Runs.need(x.drop(0, 0, 0, 0), 0);
        Runs.need(x.send(1, 0, 0, 0), 0);
        Runs.need(x.drop(1, 0, 0, 0), 0);
        arrivesWhereItCouldResultIn(x, Stamp.at(ProgressTracker.HEAD, 0, 0), "before any broadcast");
        CHECK.due("canReach before any broadcast", x.canReach(0, 0, 0, 0), true);
        Runs.need(x.broadcast(0), 1);
        Runs.need(x.broadcast(1), 2);
        arrivesWhereItCouldResultIn(x, Stamp.at(ProgressTracker.HEAD, 0, 0), "before any delivery");
        Runs.need(x.receive(0, 1, 0, 0), 0);
        Runs.need(x.drop(0, 1, 0, 0), 0);
        Runs.settle(x, 1);
        nothingCouldArrive(x, "that no view has heard of yet");
        CHECK.due("canReach by then", x.canReach(0, 1, 0, 0), true);
    }

    /** "It changes nothing." */
    private static void changesNothing() {
        for (int p = 0; p < Stamp.COUNT; p++) {
            int q = p;
            int want = Runs.busy(4).couldArrive(Stamp.op(p), Stamp.epoch(p), Stamp.round(p)) ? 1 : 0;
            CHECK.changesNothing("couldArrive at " + Stamp.name(p), () -> Runs.busy(4),
                t -> t.couldArrive(Stamp.op(q), Stamp.epoch(q), Stamp.round(q)) ? 1 : 0, want);
        }
    }
}
