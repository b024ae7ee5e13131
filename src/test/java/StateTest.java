import java.util.List;

/**
 * "What it is": its first paragraphs, and the counts under "State". A comment in quotes is the sentence of the document
 * that the test below it holds.
 */
public final class StateTest {
    private static final Check CHECK = new Check();

    public static void main(String[] args) {
        trueCountsChangeAtOnce();
        broadcastAndDeliverKeepTrueCounts();
        changesAreRecordedInOneBufferOnly();
        receiveRecordsNothing();
        wholeBufferGoesToEveryWorker();
        deliveryAppliesTheOldestBatch();
        localCountsMayBeNegative();
        everyWorkerHasItsOwnFrontiers();
        workersInRange();
        messagesWaitForTheirOperator();
        occurrencesAreTheSum();
        occurrencesOfCapabilitiesOnly();
        neverMoreThanSixteenPending();
        CHECK.end();
    }

    /** "Each of send, receive, drop and advanceInput changes the true counts (msgs, caps) at once" */
    private static void trueCountsChangeAtOnce() {
        ProgressTracker x = new ProgressTracker(2);
        Runs.need(x.send(1, 0, 0, 0), 0);
        CHECK.due("messages after a send", x.messages(1, 0, 0), 1);
        Runs.need(x.receive(0, 1, 0, 0), 0);
        CHECK.due("messages after a receive", x.messages(1, 0, 0), 0);
        CHECK.due("capabilities after a receive", x.capabilities(0, 1, 0, 0), 1);
        Runs.need(x.drop(0, 1, 0, 0), 0);
        CHECK.due("capabilities after a drop", x.capabilities(0, 1, 0, 0), 0);
        Runs.need(x.advanceInput(1, 0), 0);
        CHECK.due("capabilities left by an advance", x.capabilities(1, 0, 0, 0), 0);
        CHECK.due("capabilities made by an advance", x.capabilities(1, 0, 1, 0), 1);
        Runs.need(x.drop(0, 0, 0, 0), 0);
        CHECK.due("couldArrive when only (0,1,0) is held", x.couldArrive(3, 0, 3), false);
        CHECK.due("couldArrive in epoch 1", x.couldArrive(3, 1, 0), true);
        CHECK.due("canReach when nothing was broadcast", x.canReach(0, 3, 0, 0), true);
    }

    /** "broadcast and deliver never change them" */
    private static void broadcastAndDeliverKeepTrueCounts() {
        for (int workers = 1; workers <= 4; workers++) {
            ProgressTracker x = Runs.busy(workers);
            int[] before = Counts.of(x);
            for (int w = 0; w < workers; w++) {
                Runs.need(x.broadcast(w), 2);
                keepsTrueCounts(x, before, "broadcast(" + w + ") of " + workers);
            }
            for (int i = 0; i < workers * workers; i++) {
                while (x.deliver(i / workers, i % workers) > 0) {
                    keepsTrueCounts(x, before, "deliver(" + i / workers + ", " + i % workers + ") of " + workers);
                }
            }
        }
    }

    private static void keepsTrueCounts(ProgressTracker x, int[] before, String call) {
        int[] after = Counts.of(x);
        for (int i = 0; i < Counts.SIZE; i++) {
            String name = Counts.name(i);
            if (name.startsWith("caps") || name.startsWith("msgs")) {
                CHECK.dueOften(() -> name + " after " + call, after[i], before[i]);
            }
        }
    }

    /** "send, drop and advanceInput also record their change in that worker's pending buffer and nowhere else." */
    private static void changesAreRecordedInOneBufferOnly() {
        for (int workers = 1; workers <= 4; workers++) {
            int all = workers;
            for (int w = 0; w < workers; w++) {
                int worker = w;
                String own = "[" + w + "]";
                CHECK.step("send by " + w + " of " + all, () -> Runs.busy(all), t -> t.send(worker, 1, 2, 3), 0,
                    "msgs(2,2,3) 2->3", "pending" + own + "(2,2,3) 0->1");
                CHECK.step("drop by " + w + " of " + all, () -> Runs.busy(all), t -> t.drop(worker, 2, 3, 3), 0,
                    "caps" + own + "(2,3,3) 3->2", "pending" + own + "(2,3,3) 0->-1");
                CHECK.step("advanceInput by " + w + " of " + all, () -> new ProgressTracker(all),
                    t -> t.advanceInput(worker, 0), 0,
                    "caps" + own + "(0,0,0) 1->0", "caps" + own + "(0,1,0) 0->1",
                    "pending" + own + "(0,0,0) 0->-1", "pending" + own + "(0,1,0) 0->1");
            }
        }
    }

    /** "receive records nothing, because its -1 and +1 cancel." */
    private static void receiveRecordsNothing() {
        for (int workers = 1; workers <= 4; workers++) {
            int all = workers;
            for (int w = 0; w < workers; w++) {
                int worker = w;
                CHECK.step("receive by " + w + " of " + all, () -> Runs.busy(all), t -> t.receive(worker, 1, 0, 3), 0,
                    "caps[" + w + "](1,0,3) 3->4", "msgs(1,0,3) 2->1");
            }
        }
    }

    /** "ships the whole buffer as one batch into a FIFO channel to every worker, including the sender itself" */
    private static void wholeBufferGoesToEveryWorker() {
        for (int workers = 1; workers <= 4; workers++) {
            ProgressTracker x = Runs.fullPending(workers);
            StringBuilder batch = new StringBuilder("16");
            for (int p = 0; p < Stamp.COUNT; p++) {
                int delta = Runs.pendingAt(x, 0, p);
                batch.append(delta == 0 ? "" : " " + Stamp.name(p) + (delta > 0 ? "+" : "") + delta);
            }
            CHECK.due("broadcast by 0 of " + workers, x.broadcast(0), 16);
            List<List<String>> channels = Channels.of(x);
            for (int r = 0; r < workers; r++) {
                List<String> due = List.of(batch.toString(), "end -8");
                CHECK.due("channel (0," + r + ") of " + workers, channels.get(r), due);
            }
        }
    }

    /** "A delivery applies the oldest batch of one channel to the receiver's local view." */
    private static void deliveryAppliesTheOldestBatch() {
        ProgressTracker x = new ProgressTracker(3);
        for (int e = 0; e < 3; e++) {
            Runs.need(x.send(2, 0, e, 0), 0);
            Runs.need(x.broadcast(2), 1);
            Runs.need(x.advanceInput(2, e), 0);
            Runs.need(x.broadcast(2), 2);
        }
        for (int e = 0; e < 3; e++) {
            String old = "view[1]" + Stamp.name(Stamp.at(0, e, 0));
            int held = x.viewCount(1, 0, e, 0);
            CHECK.call(x, "deliver of send " + e, t -> t.deliver(2, 1), 1,
                "queue[2][1] " + (6 - 2 * e) + "->" + (5 - 2 * e), "view[1](1," + e + ",0) 0->1");
            CHECK.call(x, "deliver of advance " + e, t -> t.deliver(2, 1), 2,
                "queue[2][1] " + (5 - 2 * e) + "->" + (4 - 2 * e), old + " " + held + "->" + (held - 1),
                "view[1](0," + (e + 1) + ",0) 0->1");
        }
    }

    /** "Local counts may be negative.", "view[w][p] holds the worker's local counts, which may be below 0." */
    private static void localCountsMayBeNegative() {
        for (int r = 0; r < 3; r++) {
            ProgressTracker x = new ProgressTracker(3);
            Runs.need(x.send(0, 0, 0, 0), 0);
            Runs.need(x.receive(1, 1, 0, 0), 0);
            Runs.need(x.drop(1, 1, 0, 0), 0);
            Runs.need(x.broadcast(1), 1);
            Runs.need(x.deliver(1, r), 1);
            CHECK.due("viewCount at HEAD of " + r, x.viewCount(r, 1, 0, 0), -1);
            Runs.need(x.broadcast(0), 1);
            Runs.need(x.deliver(0, r), 1);
            CHECK.due("viewCount at HEAD of " + r + " at the end", x.viewCount(r, 1, 0, 0), 0);
        }
    }

    /** "From its local view each worker derives a frontier for every operator." */
    private static void everyWorkerHasItsOwnFrontiers() {
        ProgressTracker x = new ProgressTracker(4);
        for (int e = 0; e < 3; e++) {
            for (int w = 0; w < 4; w++) {
                Runs.need(x.advanceInput(w, e), 0);
                Runs.need(x.broadcast(w), 2);
            }
        }
        for (int r = 0; r < 4; r++) {
            for (int i = 0; i < 4 * r; i++) {
                Runs.need(x.deliver(i % 4, r), 2);
            }
        }
        for (int w = 0; w < 4; w++) {
            for (int op = 0; op < 4; op++) {
                String where = " of operator " + op + " at worker " + w;
                CHECK.due("frontierSize" + where, x.frontierSize(w, op), 1);
                CHECK.due("frontierElement" + where, x.frontierElement(w, op, 0), 16 * w);
            }
        }
    }

    /** "A worker index w is in range iff 0 <= w < W." */
    private static void workersInRange() {
        for (int workers = 1; workers <= 4; workers++) {
            for (int w = -5; w <= 9; w++) {
                boolean known = 0 <= w && w < workers;
                ProgressTracker x = new ProgressTracker(workers);
                String by = " by " + w + " of " + workers;
                CHECK.due("capabilities" + by, x.capabilities(w, 0, 0, 0), known ? 1 : 0);
                CHECK.due("viewCount" + by, x.viewCount(w, 0, 0, 0), known ? workers : 0);
                CHECK.due("canReach" + by, x.canReach(w, 3, 3, 3), known);
                CHECK.due("frontierSize" + by, x.frontierSize(w, 3), known ? 1 : 0);
                CHECK.due("frontierElement" + by, x.frontierElement(w, 3, 0), known ? 0 : -1);
                CHECK.due("send" + by, x.send(w, 0, 0, 0), known ? 0 : -1);
                CHECK.due("pendingCount" + by, x.pendingCount(w, 1, 0, 0), known ? 1 : 0);
                CHECK.due("receive" + by, x.receive(w, 1, 0, 0), known ? 0 : -1);
                CHECK.due("drop" + by, x.drop(w, 1, 0, 0), known ? 0 : -1);
                CHECK.due("advanceInput" + by, x.advanceInput(w, 0), known ? 0 : -1);
                CHECK.due("broadcast" + by, x.broadcast(w), known ? 2 : -1);
                CHECK.due("queuedBatches from" + by, x.queuedBatches(w, 0), known ? 1 : 0);
                CHECK.due("deliver from" + by, x.deliver(w, 0), known ? 2 : -1);
                CHECK.due("deliver to" + by, x.deliver(0, w), known ? -8 : -1);
            }
        }
    }

    /** "msgs[p] is the number of messages in flight at pointstamp p. A message at (op,e,r) waits for operator op." */
    private static void messagesWaitForTheirOperator() {
        for (int p = Stamp.FIRST_OF_HEAD; p < Stamp.COUNT; p++) {
            ProgressTracker x = new ProgressTracker(2);
            Runs.holdBefore(x, 0, p);
            for (int i = 0; i < 3; i++) {
                CHECK.due("messages at " + Stamp.name(p), messages(x, p), i);
                Runs.sendTo(x, 0, p);
            }
            for (int q = 0; q < Stamp.COUNT; q++) {
                int answer = x.receive(1, Stamp.op(q), Stamp.epoch(q), Stamp.round(q));
                CHECK.due("receive at " + Stamp.name(q) + " of a message at " + Stamp.name(p), answer, q == p ? 0 : -3);
            }
            CHECK.due("messages left at " + Stamp.name(p), messages(x, p), 2);
        }
    }

    private static int messages(ProgressTracker x, int p) {
        return x.messages(Stamp.op(p), Stamp.epoch(p), Stamp.round(p));
    }

    /** "OCC(p) = msgs[p] plus the sum over all workers w of caps[w][p]": couldArrive tells when it is 0. */
    private static void occurrencesAreTheSum() {
        for (int workers = 1; workers <= 4; workers++) {
            ProgressTracker x = new ProgressTracker(workers);
            for (int i = 0; i <= workers; i++) {
                Runs.need(x.send(0, 0, 0, 0), 0);
            }
            for (int w = 0; w < workers; w++) {
                Runs.need(x.drop(w, 0, 0, 0), 0);
                Runs.need(x.receive(w, 1, 0, 0), 0);
            }
            for (int w = workers - 1; w >= 0; w--) {
                CHECK.due("couldArrive with " + (w + 2) + " at HEAD", x.couldArrive(1, 0, 0), true);
                Runs.need(x.drop(w, 1, 0, 0), 0);
            }
            CHECK.due("couldArrive with one message at HEAD", x.couldArrive(1, 0, 0), true);
            Runs.need(x.receive(workers - 1, 1, 0, 0), 0);
            CHECK.due("couldArrive with one capability at HEAD", x.couldArrive(1, 0, 0), true);
            Runs.need(x.drop(workers - 1, 1, 0, 0), 0);
            CHECK.due("couldArrive with nothing at HEAD", x.couldArrive(1, 3, 3), false);
        }
    }

    private static void occurrencesOfCapabilitiesOnly() {
        for (int last = 0; last < 4; last++) {
            ProgressTracker x = new ProgressTracker(4);
            for (int w = 0; w < 4; w++) {
                Runs.need(w == last ? x.advanceInput(w, 0) : x.drop(w, 0, 0, 0), 0);
            }
            CHECK.due("couldArrive in epoch 0 by " + last, x.couldArrive(3, 0, 3), false);
            CHECK.due("couldArrive in epoch 1 by " + last, x.couldArrive(3, 1, 0), true);
            Runs.need(x.drop(last, 0, 1, 0), 0);
            CHECK.due("couldArrive by nobody", x.couldArrive(3, 3, 3), false);
        }
    }

    /** "The pending entries of w are the number of p with pending[w][p] != 0. This is never more than 16" */
    private static void neverMoreThanSixteenPending() {
        for (int workers = 1; workers <= 4; workers++) {
            ProgressTracker x = Runs.everywhere(workers, 1);
            int last = workers - 1;
            for (int w = 0; w < workers; w++) {
                int taken = 0;
                for (int p = Stamp.COUNT - 1; p >= Stamp.FIRST_OF_HEAD; p--) {
                    boolean drops = p % 3 == 0;
                    int answer = drops ? x.drop(w, Stamp.op(p), Stamp.epoch(p), Stamp.round(p))
                        : x.send(w, Runs.edgeTo(p), Stamp.epoch(p), Runs.roundBefore(p));
                    boolean noInput = !drops && Runs.edgeTo(p) == 0 && Stamp.epoch(p) != (w == last ? 3 : 1);
                    CHECK.due("change " + taken + " of " + w, answer, noInput ? -2 : taken < 16 ? 0 : -6);
                    taken += answer == 0 ? 1 : 0;
                    CHECK.due("entries of " + w, Runs.entries(x, w), taken);
                }
                CHECK.due("entries of " + w + " in the end", Runs.entries(x, w), 16);
            }
        }
    }
}
