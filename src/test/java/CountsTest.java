/** Promises 11 to 14. A comment in quotes is the sentence of the document that the test below it holds. */
public final class CountsTest {
    private static final Check CHECK = new Check();

    /** viewCount, pendingCount and capabilities: they take the same arguments. */
    private static final Question[] QUESTIONS = {
        ProgressTracker::viewCount, ProgressTracker::pendingCount, ProgressTracker::capabilities};
    private static final String[] NAMES = {"viewCount", "pendingCount", "capabilities"};

    interface Question {
        int ask(ProgressTracker x, int w, int op, int epoch, int round);
    }

    public static void main(String[] args) {
        workerNotInRange();
        operatorNotInRange();
        epochNotInRange();
        roundNotInRange();
        messagesOutOfRange();
        everyCount();
        viewsAboveAndBelowZero();
        pendingAboveAndBelowZero();
        messagesAndCapabilitiesDownToZero();
        fewerWorkers();
        changeNothing();
        CHECK.end();
    }

    /** Every worker's view, buffer and capabilities have a count wherever an index made of a bad argument may lead. */
    private static ProgressTracker filled(int workers) {
        ProgressTracker x = Runs.busy(workers);
        for (int w = 0; w < workers; w++) {
            Runs.fillPending(x, w, 16);
        }
        return x;
    }

    /** "It answers 0 if any argument is out of range: w must be in range, and op, epoch and round [...] in 0..3." */
    private static void workerNotInRange() {
        for (int workers = 1; workers <= 4; workers++) {
            int all = workers;
            for (int w : Check.outside(workers)) {
                for (int i = 0; i < 3; i++) {
                    Question question = QUESTIONS[i];
                    for (int p = 0; p < Stamp.COUNT; p++) {
                        int got = question.ask(filled(all), w, Stamp.op(p), Stamp.epoch(p), Stamp.round(p));
                        CHECK.due(NAMES[i] + " of " + w + " at " + Stamp.name(p), got, 0);
                    }
                    CHECK.changesNothing(NAMES[i] + "(" + w + ", 1, 0, 0) of " + all, () -> filled(all),
                        t -> question.ask(t, w, 1, 0, 0), 0);
                }
            }
        }
    }

    private static void operatorNotInRange() {
        for (int op : Check.OUTSIDE) {
            ProgressTracker x = filled(4);
            for (int i = 0; i < 64; i++) {
                answersZero(x, i / 16, op, i / 4 % 4, i % 4);
            }
        }
    }

    private static void epochNotInRange() {
        for (int epoch : Check.OUTSIDE) {
            ProgressTracker x = filled(4);
            for (int i = 0; i < 64; i++) {
                answersZero(x, i / 16, i / 4 % 4, epoch, i % 4);
            }
        }
    }

    private static void roundNotInRange() {
        for (int round : Check.OUTSIDE) {
            ProgressTracker x = filled(4);
            for (int i = 0; i < 64; i++) {
                answersZero(x, i / 16, i / 4 % 4, i % 4, round);
            }
        }
    }

    private static void answersZero(ProgressTracker x, int w, int op, int epoch, int round) {
        for (int i = 0; i < 3; i++) {
            String name = NAMES[i] + "(" + w + ", " + op + ", " + epoch + ", " + round + ")";
            CHECK.due(name, QUESTIONS[i].ask(x, w, op, epoch, round), 0);
        }
    }

    /** "It answers 0 if any argument is out of 0..3." */
    private static void messagesOutOfRange() {
        ProgressTracker x = filled(4);
        for (int bad : Check.OUTSIDE) {
            for (int i = 0; i < 16; i++) {
                int a = i / 4;
                int b = i % 4;
                CHECK.due("messages(" + bad + ", " + a + ", " + b + ")", x.messages(bad, a, b), 0);
                CHECK.due("messages(" + a + ", " + bad + ", " + b + ")", x.messages(a, bad, b), 0);
                CHECK.due("messages(" + a + ", " + b + ", " + bad + ")", x.messages(a, b, bad), 0);
            }
        }
    }

    /** How many messages, and how many capabilities of worker w, stand at a pointstamp in the end. */
    private static int messagesAt(int p) {
        return Stamp.op(p) == 0 ? 0 : 1 + p % 7;
    }

    private static int capabilitiesAt(int w, int p) {
        if (Stamp.op(p) == 0) {
            return p == Stamp.at(0, 3, 0) ? 1 : 0;
        }
        return 1 + (w * 5 + p) % 11;
    }

    /** Every pointstamp but those at SOURCE gets counts of its own, and all workers hear of all. */
    private static ProgressTracker allDifferent() {
        ProgressTracker x = new ProgressTracker(4);
        for (int epoch = 0; epoch < 4; epoch++) {
            for (int w = 0; w < 4; w++) {
                for (int round = 0; round < 4; round++) {
                    fill(x, w, epoch, round);
                }
            }
            for (int w = 0; epoch < 3 && w < 4; w++) {
                Runs.need(x.advanceInput(w, epoch), 0);
                Runs.settle(x, w);
            }
        }
        return x;
    }

    private static void fill(ProgressTracker x, int w, int epoch, int round) {
        for (int op = 1; op < 4; op++) {
            int p = Stamp.at(op, epoch, round);
            for (int i = 0; i < capabilitiesAt(w, p); i++) {
                Runs.pass(x, w, Runs.edgeTo(p), epoch, Runs.roundBefore(p));
            }
            for (int i = 0; w == 0 && i < messagesAt(p); i++) {
                Runs.sendTo(x, w, p);
            }
        }
        Runs.settle(x, w);
    }

    /** "answers view[w][(op,epoch,round)]", and so on: every worker's, at every pointstamp. */
    private static void everyCount() {
        ProgressTracker x = allDifferent();
        for (int p = 0; p < Stamp.COUNT; p++) {
            int all = messagesAt(p);
            for (int w = 0; w < 4; w++) {
                all += capabilitiesAt(w, p);
                CHECK.due("capabilities of " + w + " at " + Stamp.name(p), Runs.held(x, w, p), capabilitiesAt(w, p));
            }
            int messages = x.messages(Stamp.op(p), Stamp.epoch(p), Stamp.round(p));
            CHECK.due("messages at " + Stamp.name(p), messages, messagesAt(p));
            for (int w = 0; w < 4; w++) {
                int view = x.viewCount(w, Stamp.op(p), Stamp.epoch(p), Stamp.round(p));
                CHECK.due("viewCount of " + w + " at " + Stamp.name(p), view, all);
                CHECK.due("pendingCount of " + w + " at " + Stamp.name(p), Runs.pendingAt(x, w, p), 0);
            }
        }
    }

    /** "view[w][p] holds the worker's local counts, which may be below 0." */
    private static void viewsAboveAndBelowZero() {
        ProgressTracker x = new ProgressTracker(3);
        for (int i = 0; i < 4; i++) {
            Runs.need(x.send(0, 0, 0, 0), 0);
            Runs.need(x.receive(1, 1, 0, 0), 0);
            Runs.need(x.drop(1, 1, 0, 0), 0);
        }
        Runs.need(x.broadcast(0), 1);
        Runs.need(x.broadcast(1), 1);
        Runs.need(x.deliver(0, 0), 1);
        Runs.need(x.deliver(1, 1), 1);
        CHECK.due("viewCount above 0", x.viewCount(0, 1, 0, 0), 4);
        CHECK.due("viewCount below 0", x.viewCount(1, 1, 0, 0), -4);
        CHECK.due("viewCount of who heard nothing", x.viewCount(2, 1, 0, 0), 0);
    }

    /** Only the last worker has pending changes, one pointstamp after the other, as "changes not yet broadcast". */
    private static void pendingAboveAndBelowZero() {
        int[] values = {-3, -1, 1, 4};
        for (int p = Stamp.FIRST_OF_HEAD; p < Stamp.COUNT; p++) {
            for (int value : values) {
                ProgressTracker x = Runs.everywhere(3, Stamp.epoch(p));
                Runs.bringPendingTo(x, 1, p, value);
                for (int q = 0; q < Stamp.COUNT; q++) {
                    CHECK.due("pendingCount of 0 at " + Stamp.name(q), Runs.pendingAt(x, 0, q), 0);
                    CHECK.due("pendingCount of 1 at " + Stamp.name(q), Runs.pendingAt(x, 1, q), q == p ? value : 0);
                    CHECK.due("pendingCount of 2 at " + Stamp.name(q), Runs.pendingAt(x, 2, q), 0);
                }
                Runs.need(x.broadcast(1), 1);
                CHECK.due("pendingCount after the broadcast", Runs.pendingAt(x, 1, p), 0);
            }
        }
    }

    private static void messagesAndCapabilitiesDownToZero() {
        for (int p = Stamp.FIRST_OF_HEAD; p < Stamp.COUNT; p++) {
            ProgressTracker x = Runs.everywhere(2, 1);
            for (int i = Runs.WAITING - 1; i >= 0; i--) {
                Runs.need(x.receive(0, Stamp.op(p), Stamp.epoch(p), Stamp.round(p)), 0);
                int messages = x.messages(Stamp.op(p), Stamp.epoch(p), Stamp.round(p));
                CHECK.due("messages at " + Stamp.name(p), messages, i);
                CHECK.due("capabilities at " + Stamp.name(p), Runs.held(x, 0, p), Runs.HELD + Runs.WAITING - i);
            }
            for (int i = Runs.HELD + Runs.WAITING - 1; i >= 0; i--) {
                Runs.dropAt(x, 0, p);
                CHECK.due("capabilities left at " + Stamp.name(p), Runs.held(x, 0, p), i);
            }
            CHECK.due("capabilities of the other at " + Stamp.name(p), Runs.held(x, 1, p), Runs.HELD);
        }
    }

    private static void fewerWorkers() {
        for (int workers = 1; workers <= 4; workers++) {
            ProgressTracker x = new ProgressTracker(workers);
            answersZero(x, workers, 0, 0, 0);
            Runs.need(x.send(workers - 1, 0, 0, 0), 0);
            CHECK.due("pendingCount of the last worker", x.pendingCount(workers - 1, 1, 0, 0), 1);
            CHECK.due("capabilities of the last worker", x.capabilities(workers - 1, 0, 0, 0), 1);
            CHECK.due("viewCount of the last worker", x.viewCount(workers - 1, 0, 0, 0), workers);
        }
    }

    /** "It changes nothing." */
    private static void changeNothing() {
        for (int i = 0; i < Stamp.COUNT; i++) {
            int p = i;
            ProgressTracker x = Runs.busy(4);
            CHECK.changesNothing("messages at " + Stamp.name(p), () -> Runs.busy(4),
                t -> t.messages(Stamp.op(p), Stamp.epoch(p), Stamp.round(p)), Stamp.op(p) == 0 ? 0 : busyMessages(p));
            for (int k = 0; k < 3; k++) {
                Question question = QUESTIONS[k];
                int want = question.ask(x, p % 4, Stamp.op(p), Stamp.epoch(p), Stamp.round(p));
                CHECK.changesNothing(NAMES[k] + " at " + Stamp.name(p), () -> Runs.busy(4),
                    t -> question.ask(t, p % 4, Stamp.op(p), Stamp.epoch(p), Stamp.round(p)), want);
            }
        }
    }

    /** In the busy state worker w has sent two more to three pointstamps from 40 + 5*w on, and one to 33 + w. */
    private static int busyMessages(int p) {
        int more = 0;
        for (int w = 0; w < 4; w++) {
            more += 40 + 5 * w <= p && p < 43 + 5 * w ? 2 : 0;
            more += p == 33 + w ? 1 : 0;
        }
        return Runs.WAITING + more;
    }
}
