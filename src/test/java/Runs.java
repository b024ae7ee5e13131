/** Runs of calls that bring an object into a state that several tests need. */
final class Runs {
    /** In the state that everywhere makes: the capabilities of every worker, and the messages, at a pointstamp. */
    static final int HELD = 3;
    static final int WAITING = 2;

    private Runs() {
    }

    /** Worker w, with a SOURCE capability at this epoch, comes to hold one at (op, epoch, round) too. */
    static void hold(ProgressTracker x, int w, int op, int epoch, int round) {
        if (op == ProgressTracker.SOURCE) {
            return;
        }
        pass(x, w, 0, epoch, 0);
        for (int r = 0; r < round; r++) {
            pass(x, w, 1, epoch, r);
            pass(x, w, 2, epoch, r);
        }
        if (op != ProgressTracker.HEAD) {
            pass(x, w, 1, epoch, round);
        }
        if (op == ProgressTracker.SINK) {
            pass(x, w, 3, epoch, round);
        }
    }

    /** Worker w comes to hold a capability at (op, epoch, round) and drops every other, which at SOURCE is its last. */
    static void holdAlone(ProgressTracker x, int w, int op, int epoch, int round) {
        for (int e = 0; e < epoch; e++) {
            need(x.advanceInput(w, e), 0);
        }
        hold(x, w, op, epoch, round);
        for (int p = 0; p < Stamp.COUNT; p++) {
            if (p != Stamp.at(op, epoch, round) && held(x, w, p) > 0) {
                dropAt(x, w, p);
            }
        }
    }

    /** One worker holds a capability at p and nothing else is anywhere, and its view knows. */
    static ProgressTracker alone(int p) {
        ProgressTracker x = new ProgressTracker(1);
        holdAlone(x, 0, Stamp.op(p), Stamp.epoch(p), Stamp.round(p));
        settle(x, 0);
        return x;
    }

    /** Sends on the edge and receives what was sent. */
    static void pass(ProgressTracker x, int w, int edge, int epoch, int round) {
        int to = edge == 1 ? 2 : edge == 3 ? 3 : 1;
        need(x.send(w, edge, epoch, round), 0);
        need(x.receive(w, to, epoch, edge == 2 ? round + 1 : round), 0);
    }

    /** Broadcasts what w has pending, if anything, and delivers all that waits in every channel. */
    static void settle(ProgressTracker x, int w) {
        x.broadcast(w);
        for (int s = 0; s < 4; s++) {
            for (int r = 0; r < 4; r++) {
                deliverAll(x, s, r);
            }
        }
    }

    static void deliverAll(ProgressTracker x, int s, int r) {
        int answer = 1;
        for (int i = 0; i < 32 && answer > 0; i++) {
            answer = x.deliver(s, r);
        }
    }

    /**
     * Worker 0 of a fresh object gets 16 pending entries: -1 at (0,0,0), +1 at (0,1,0), +1 at HEAD, BODY and
     * SINK for every round of epoch 0 and at HEAD and BODY in round 0 of epoch 1. It holds a capability at each
     * +1, and a second one, with a message, waits at HEAD (0,0).
     */
    static ProgressTracker fullPending(int workers) {
        ProgressTracker x = new ProgressTracker(workers);
        for (int round = 0; round < 4; round++) {
            if (round == 0) {
                pass(x, 0, 0, 0, 0);
            } else {
                pass(x, 0, 2, 0, round - 1);
            }
            pass(x, 0, 1, 0, round);
            pass(x, 0, 3, 0, round);
        }
        need(x.send(0, 0, 0, 0), 0);
        need(x.advanceInput(0, 0), 0);
        pass(x, 0, 0, 1, 0);
        pass(x, 0, 1, 1, 0);
        return x;
    }

    /** Worker w, at this epoch, sends count messages to HEAD, each broadcast as a batch of its own. */
    static void oneEntryBatches(ProgressTracker x, int w, int epoch, int count) {
        for (int i = 0; i < count; i++) {
            need(x.send(w, 0, epoch, 0), 0);
            need(x.broadcast(w), 1);
        }
    }

    /**
     * Every worker holds HELD capabilities at every pointstamp of HEAD, BODY and SINK, and WAITING messages wait
     * at each. The last worker's input stands at epoch 3, that of the others at this epoch. All have heard of all.
     */
    static ProgressTracker everywhere(int workers, int epochOfOthers) {
        ProgressTracker x = new ProgressTracker(workers);
        int last = workers - 1;
        for (int epoch = 0; epoch < 4; epoch++) {
            for (int round = 0; round < 4; round++) {
                for (int op = 1; op < 4; op++) {
                    supply(x, last, workers, Stamp.at(op, epoch, round));
                }
            }
            if (epoch < 3) {
                need(x.advanceInput(last, epoch), 0);
            }
        }
        for (int w = 0; w < last; w++) {
            for (int e = 0; e < epochOfOthers; e++) {
                need(x.advanceInput(w, e), 0);
            }
            settle(x, w);
        }
        return x;
    }

    private static void supply(ProgressTracker x, int supplier, int workers, int p) {
        for (int w = 0; w < workers; w++) {
            for (int i = 0; i < HELD; i++) {
                sendTo(x, supplier, p);
                need(x.receive(w, Stamp.op(p), Stamp.epoch(p), Stamp.round(p)), 0);
            }
        }
        for (int i = 0; i < WAITING; i++) {
            sendTo(x, supplier, p);
        }
        settle(x, supplier);
    }

    /**
     * As everywhere, and a change of anything would show: each worker's buffer has entries above and below 0,
     * every channel holds batches, and no two views are the same.
     */
    static ProgressTracker busy(int workers) {
        ProgressTracker x = everywhere(workers, 1);
        for (int batch = 0; batch < 3; batch++) {
            for (int w = 0; w < workers; w++) {
                dropAt(x, w, 20 + 3 * w + batch);
                sendTo(x, w, 40 + 5 * w + batch);
                sendTo(x, w, 40 + 5 * w + batch);
                need(x.broadcast(w), 2);
            }
        }
        for (int i = 0; i < workers * workers; i++) {
            int s = i / workers;
            int r = i % workers;
            int heard = r == 3 ? 1 : (s + r) % 3;
            for (int k = 0; k < heard; k++) {
                need(x.deliver(s, r), 2);
            }
        }
        for (int w = 0; w < workers; w++) {
            dropAt(x, w, 48 + 2 * w);
            dropAt(x, w, 48 + 2 * w);
            sendTo(x, w, 33 + w);
        }
        return x;
    }

    /** Worker w of a fresh object comes to hold a capability from which it can send to pointstamp p. */
    static void holdBefore(ProgressTracker x, int w, int p) {
        int[] before = {ProgressTracker.SOURCE, ProgressTracker.HEAD, ProgressTracker.BODY, ProgressTracker.BODY};
        for (int e = 0; e < Stamp.epoch(p); e++) {
            need(x.advanceInput(w, e), 0);
        }
        hold(x, w, before[edgeTo(p)], Stamp.epoch(p), roundBefore(p));
    }

    /** Worker w sends one message to pointstamp p, by the one edge that leads there. */
    static void sendTo(ProgressTracker x, int w, int p) {
        need(x.send(w, edgeTo(p), Stamp.epoch(p), roundBefore(p)), 0);
    }

    /** HEAD is reached from SOURCE in round 0 and from BODY in the others. */
    static int edgeTo(int p) {
        int op = Stamp.op(p);
        return op == 2 ? 1 : op == 3 ? 3 : Stamp.round(p) == 0 ? 0 : 2;
    }

    static int roundBefore(int p) {
        return edgeTo(p) == ProgressTracker.FEEDBACK_EDGE ? Stamp.round(p) - 1 : Stamp.round(p);
    }

    static void dropAt(ProgressTracker x, int w, int p) {
        need(x.drop(w, Stamp.op(p), Stamp.epoch(p), Stamp.round(p)), 0);
    }

    static int held(ProgressTracker x, int w, int p) {
        return x.capabilities(w, Stamp.op(p), Stamp.epoch(p), Stamp.round(p));
    }

    static int pendingAt(ProgressTracker x, int w, int p) {
        return x.pendingCount(w, Stamp.op(p), Stamp.epoch(p), Stamp.round(p));
    }

    /** The document's "pending entries" of w. */
    static int entries(ProgressTracker x, int w) {
        int n = 0;
        for (int p = 0; p < Stamp.COUNT; p++) {
            n += pendingAt(x, w, p) == 0 ? 0 : 1;
        }
        return n;
    }

    /** Drops put -1 into places of w's buffer that are 0, but not at the kept pointstamps, until it has n entries. */
    static void fillPending(ProgressTracker x, int w, int n, int... kept) {
        int have = entries(x, w);
        for (int p = Stamp.FIRST_OF_HEAD; p < Stamp.COUNT && have < n; p++) {
            if (pendingAt(x, w, p) == 0 && !isOneOf(p, kept)) {
                dropAt(x, w, p);
                have++;
            }
        }
        need(entries(x, w), n);
    }

    /** Drops and sends bring what w has pending at p to this value. */
    static void bringPendingTo(ProgressTracker x, int w, int p, int value) {
        for (int i = 0; i < value; i++) {
            sendTo(x, w, p);
        }
        for (int i = 0; i > value; i--) {
            dropAt(x, w, p);
        }
        need(pendingAt(x, w, p), value);
    }

    private static boolean isOneOf(int p, int[] list) {
        for (int q : list) {
            if (p == q) {
                return true;
            }
        }
        return false;
    }

    static void need(int got, int want) {
        if (got != want) {
            throw new IllegalStateException("a call that prepares the test answered " + got + ", not " + want);
        }
    }
}
