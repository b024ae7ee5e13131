/** Runs of calls that bring an object into a state that several tests need. */
final class Runs {
    private Runs() {
    }

    /** Worker w, with a SOURCE capability at this epoch, comes to hold one at (op, epoch, round) too. */
    static void hold(ProgressTracker x, int w, int op, int epoch, int round) {
        if (op == ProgressTracker.SOURCE) {
            return;
        }
        pass(x, w, 0, epoch, 0);
        for (int r = 0; r < round; r++) {
            pass(x, w, 1, epoch, r);
            pass(x, w, 2, epoch, r);
        }
        if (op != ProgressTracker.HEAD) {
            pass(x, w, 1, epoch, round);
        }
        if (op == ProgressTracker.SINK) {
            pass(x, w, 3, epoch, round);
        }
    }

    /** Worker w comes to hold a capability at (op, epoch, round) and drops every other, which at SOURCE is its last. */
    static void holdAlone(ProgressTracker x, int w, int op, int epoch, int round) {
        for (int e = 0; e < epoch; e++) {
            need(x.advanceInput(w, e), 0);
        }
        hold(x, w, op, epoch, round);
        for (int p = 0; p < 64; p++) {
            boolean kept = p == op * 16 + epoch * 4 + round;
            if (!kept && x.capabilities(w, p / 16, p / 4 % 4, p % 4) > 0) {
                need(x.drop(w, p / 16, p / 4 % 4, p % 4), 0);
            }
        }
    }

    /** Sends on the edge and receives what was sent. */
    static void pass(ProgressTracker x, int w, int edge, int epoch, int round) {
        int to = edge == 1 ? 2 : edge == 3 ? 3 : 1;
        need(x.send(w, edge, epoch, round), 0);
        need(x.receive(w, to, epoch, edge == 2 ? round + 1 : round), 0);
    }

    /** Broadcasts what w has pending, if anything, and delivers all that waits in every channel. */
    static void settle(ProgressTracker x, int w) {
        x.broadcast(w);
        for (int s = 0; s < 4; s++) {
            for (int r = 0; r < 4; r++) {
                for (int i = 0; i < 32; i++) {
                    x.deliver(s, r);
                }
            }
        }
    }

    /**
     * Worker 0 of a fresh object gets 16 pending entries: -1 at (0,0,0), +1 at (0,1,0), +1 at HEAD, BODY and
     * SINK for every round of epoch 0 and at HEAD and BODY in round 0 of epoch 1. It holds a capability at each
     * +1, and a second one, with a message, waits at HEAD (0,0).
     */
    static ProgressTracker fullPending(int workers) {
        ProgressTracker x = new ProgressTracker(workers);
        for (int round = 0; round < 4; round++) {
            if (round == 0) {
                pass(x, 0, 0, 0, 0);
            } else {
                pass(x, 0, 2, 0, round - 1);
            }
            pass(x, 0, 1, 0, round);
            pass(x, 0, 3, 0, round);
        }
        need(x.send(0, 0, 0, 0), 0);
        need(x.advanceInput(0, 0), 0);
        pass(x, 0, 0, 1, 0);
        pass(x, 0, 1, 1, 0);
        return x;
    }

    /** Worker w, at this epoch, sends count messages to HEAD, each broadcast as a batch of its own. */
    static void oneEntryBatches(ProgressTracker x, int w, int epoch, int count) {
        for (int i = 0; i < count; i++) {
            need(x.send(w, 0, epoch, 0), 0);
            need(x.broadcast(w), 1);
        }
    }

    static void need(int got, int want) {
        if (got != want) {
            throw new IllegalStateException("a call that prepares the test answered " + got + ", not " + want);
        }
    }
}
