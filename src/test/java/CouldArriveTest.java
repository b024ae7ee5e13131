/** Promise 9. */
public final class CouldArriveTest {
    private static final Check CHECK = new Check();

    public static void main(String[] args) {
        everyPairOfPointstamps();
        messagesCountToo();
        everyWorkersCapabilitiesCount();
        looksAtTheTruthAlone();
        badArgumentsAreFalse();
        CHECK.end();
    }

    private static void everyPairOfPointstamps() {
        for (int p = 0; p < 64; p++) {
            int op = p / 16;
            int epoch = p / 4 % 4;
            int round = p % 4;
            if (op == ProgressTracker.SOURCE && round > 0) {
                continue;
            }
            ProgressTracker x = new ProgressTracker(1);
            Runs.holdAlone(x, 0, op, epoch, round);
            for (int q = 0; q < 64; q++) {
                String call = "couldArrive from " + p + " at " + q;
                boolean want = Graph.couldResultIn(op, epoch, round, q / 16, q / 4 % 4, q % 4);
                CHECK.due(call, x.couldArrive(q / 16, q / 4 % 4, q % 4), want);
            }
        }
    }

    private static void messagesCountToo() {
        ProgressTracker x = new ProgressTracker(1);
        Runs.holdAlone(x, 0, ProgressTracker.BODY, 1, 1);
        Runs.need(x.send(0, 2, 1, 1), 0);
        Runs.need(x.drop(0, 2, 1, 1), 0);
        CHECK.due("couldArrive at BODY before the message", x.couldArrive(2, 1, 1), false);
        CHECK.due("couldArrive at BODY after the message", x.couldArrive(2, 1, 2), true);
        CHECK.due("couldArrive at HEAD in an earlier epoch", x.couldArrive(1, 0, 2), false);
        Runs.need(x.receive(0, 1, 1, 2), 0);
        CHECK.due("couldArrive from a message received", x.couldArrive(2, 1, 2), true);
        Runs.need(x.drop(0, 1, 1, 2), 0);
        CHECK.due("couldArrive with nothing left", x.couldArrive(3, 3, 3), false);
    }

    private static void everyWorkersCapabilitiesCount() {
        for (int last = 0; last < 4; last++) {
            ProgressTracker x = new ProgressTracker(4);
            for (int w = 0; w < 4; w++) {
                if (w != last) {
                    Runs.need(x.drop(w, 0, 0, 0), 0);
                }
            }
            CHECK.due("couldArrive by worker " + last, x.couldArrive(0, 0, 0), true);
            Runs.need(x.drop(last, 0, 0, 0), 0);
            CHECK.due("couldArrive by none", x.couldArrive(3, 3, 3), false);
        }
    }

    private static void looksAtTheTruthAlone() {
        ProgressTracker x = new ProgressTracker(2);
        Runs.need(x.drop(0, 0, 0, 0), 0);
        Runs.need(x.send(1, 0, 0, 0), 0);
        Runs.need(x.drop(1, 0, 0, 0), 0);
        CHECK.due("couldArrive at SOURCE before any broadcast", x.couldArrive(0, 3, 3), false);
        CHECK.due("couldArrive at HEAD before any broadcast", x.couldArrive(1, 0, 0), true);
        CHECK.due("canReach before any broadcast", x.canReach(0, 0, 0, 0), true);
    }

    private static void badArgumentsAreFalse() {
        ProgressTracker x = new ProgressTracker(4);
        for (int bad : Check.OUTSIDE) {
            CHECK.due("couldArrive(" + bad + ", 3, 3)", x.couldArrive(bad, 3, 3), false);
            CHECK.due("couldArrive(3, " + bad + ", 3)", x.couldArrive(3, bad, 3), false);
            CHECK.due("couldArrive(3, 3, " + bad + ")", x.couldArrive(3, 3, bad), false);
            CHECK.call(x, "couldArrive", t -> t.couldArrive(bad, bad, bad) ? 1 : 0, 0);
        }
        CHECK.call(x, "couldArrive(3, 3, 3)", t -> t.couldArrive(3, 3, 3) ? 1 : 0, 1);
    }
}
