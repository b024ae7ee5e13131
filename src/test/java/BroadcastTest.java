import java.util.ArrayList;
import java.util.List;

/** Promise 6. A comment in quotes is the sentence of the document that the test below it holds. */
public final class BroadcastTest {
    private static final Check CHECK = new Check();
    private static final int CAPACITY = 32;

    public static void main(String[] args) {
        workerNotInRange();
        nothingPending();
        nothingPendingAnyMore();
        changesThatCancelled();
        roomForEverySize();
        oneFullChannelIsEnough();
        refusedBroadcastTakesNoRoom();
        refusedBroadcastKeepsTheBuffer();
        channelsOfOtherSendersDoNotCount();
        oneBatchForEveryWorker();
        everyPointstampAndDelta();
        answersTheNumberOfEntries();
        nothingElseChanges();
        testsComeInOrder();
        CHECK.end();
    }

    /** "w is not in range: answers BAD_ARG" */
    private static void workerNotInRange() {
        for (int workers = 1; workers <= 4; workers++) {
            int all = workers;
            for (int w : Check.outside(workers)) {
                CHECK.changesNothing("broadcast(" + w + ") of " + all, () -> Runs.busy(all), t -> t.broadcast(w), -1);
            }
            CHECK.due("broadcast by the last of " + all, Runs.busy(all).broadcast(all - 1), 2);
        }
    }

    /** "If n == 0: answers EMPTY." */
    private static void nothingPending() {
        for (int workers = 1; workers <= 4; workers++) {
            int all = workers;
            for (int w = 0; w < workers; w++) {
                int worker = w;
                CHECK.changesNothing("broadcast(" + w + ") at the start", () -> new ProgressTracker(all),
                    t -> t.broadcast(worker), -8);
                CHECK.changesNothing("broadcast(" + w + ") with nothing pending", () -> Runs.everywhere(all, 1),
                    t -> t.broadcast(worker), -8);
                CHECK.changesNothing("broadcast(" + w + ") when only others have pending", () -> allPendingBut(all, worker),
                    t -> t.broadcast(worker), -8);
            }
        }
    }

    private static ProgressTracker allPendingBut(int workers, int idle) {
        ProgressTracker x = Runs.everywhere(workers, 1);
        for (int w = 0; w < workers; w++) {
            if (w != idle) {
                Runs.fillPending(x, w, 16);
            }
        }
        return x;
    }

    private static void nothingPendingAnyMore() {
        CHECK.changesNothing("broadcast(1) after broadcast(1)", () -> {
            ProgressTracker x = Runs.busy(3);
            Runs.need(x.broadcast(1), 2);
            return x;
        }, t -> t.broadcast(1), -8);
    }

    private static void changesThatCancelled() {
        CHECK.changesNothing("broadcast after a send and a drop at one place", () -> {
            ProgressTracker x = Runs.everywhere(2, 1);
            Runs.sendTo(x, 0, 63);
            Runs.dropAt(x, 0, 63);
            return x;
        }, t -> t.broadcast(0), -8);
        CHECK.changesNothing("broadcast after a drop and a send at one place", () -> {
            ProgressTracker x = Runs.everywhere(2, 1);
            Runs.dropAt(x, 0, 63);
            Runs.sendTo(x, 0, 63);
            return x;
        }, t -> t.broadcast(0), -8);
        CHECK.changesNothing("broadcast after a receive", () -> {
            ProgressTracker x = Runs.everywhere(2, 1);
            Runs.need(x.receive(0, 3, 3, 3), 0);
            return x;
        }, t -> t.broadcast(0), -8);
    }

    /** Worker 0 ships so many entries, in batches of this size and a smaller one at the end. */
    private static void ship(ProgressTracker x, int entries, int size) {
        for (int left = entries; left > 0; left -= size) {
            int n = Math.min(left, size);
            for (int i = 0; i < n; i++) {
                Runs.sendTo(x, 0, 48 + i);
            }
            Runs.need(x.broadcast(0), n);
        }
    }

    /** Channel (0,slow) holds so many entries, every other channel none, and worker 0 has n pending. */
    private static ProgressTracker holding(int workers, int slow, int entries, int size, int n) {
        ProgressTracker x = Runs.everywhere(workers, 1);
        ship(x, entries, size);
        for (int r = 0; r < workers; r++) {
            if (r != slow) {
                Runs.deliverAll(x, 0, r);
            }
        }
        Runs.fillPending(x, 0, n);
        return x;
    }

    /** "Some channel (w,r), with r in range, holds more than 32 - n entries: answers CHANNEL_FULL." */
    private static void roomForEverySize() {
        int[] sizes = {1, 5, 16};
        for (int n = 1; n <= 16; n++) {
            int pending = n;
            for (int size : sizes) {
                for (int held = 0; held <= CAPACITY; held++) {
                    ProgressTracker x = holding(1, 0, held, size, n);
                    int before = x.queuedBatches(0, 0);
                    boolean fits = held <= CAPACITY - n;
                    CHECK.due("broadcast of " + n + " onto " + held, x.broadcast(0), fits ? n : -7);
                    CHECK.due("batches after it", x.queuedBatches(0, 0), fits ? before + 1 : before);
                    CHECK.due("entries pending after it", Runs.entries(x, 0), fits ? 0 : n);
                }
                CHECK.changesNothing("broadcast of " + n + " onto one too many",
                    () -> holding(2, 1, CAPACITY - pending + 1, size, pending), t -> t.broadcast(0), -7);
                CHECK.changesNothing("broadcast of " + n + " onto 32",
                    () -> holding(2, 1, CAPACITY, size, pending), t -> t.broadcast(0), -7);
            }
        }
    }

    private static void oneFullChannelIsEnough() {
        for (int workers = 1; workers <= 4; workers++) {
            int all = workers;
            for (int r = 0; r < workers; r++) {
                int slow = r;
                CHECK.changesNothing("broadcast(0) of " + all + " with channel (0," + r + ") full",
                    () -> holding(all, slow, CAPACITY, 16, 1), t -> t.broadcast(0), -7);
                ProgressTracker x = holding(all, slow, CAPACITY - 16, 16, 16);
                CHECK.due("broadcast(0) of " + all + " that fills channel (0," + r + ")", x.broadcast(0), 16);
            }
        }
    }

    /** Only the slow channel holds entries: if a refused broadcast took room in any channel, 32 would not fit. */
    private static void refusedBroadcastTakesNoRoom() {
        for (int workers = 1; workers <= 4; workers++) {
            for (int slow = 0; slow < workers; slow++) {
                ProgressTracker x = holding(workers, slow, CAPACITY - 1, 16, 2);
                for (int i = 0; i < 40; i++) {
                    CHECK.due("broadcast onto one too many", x.broadcast(0), -7);
                }
                Runs.deliverAll(x, 0, slow);
                CHECK.due("broadcast after the deliveries", x.broadcast(0), 2);
                for (int i = 2; i < CAPACITY; i++) {
                    Runs.sendTo(x, 0, 63);
                    CHECK.due("broadcast onto " + i, x.broadcast(0), 1);
                }
                Runs.sendTo(x, 0, 63);
                CHECK.due("broadcast of a 33rd entry", x.broadcast(0), -7);
            }
        }
    }

    /** What was refused is shipped later, together with what came to it. */
    private static void refusedBroadcastKeepsTheBuffer() {
        ProgressTracker x = holding(2, 1, CAPACITY, 16, 0);
        Runs.sendTo(x, 0, 63);
        CHECK.due("broadcast into a full channel", x.broadcast(0), -7);
        Runs.sendTo(x, 0, 63);
        Runs.dropAt(x, 0, 62);
        CHECK.due("broadcast of more into a full channel", x.broadcast(0), -7);
        Runs.deliverAll(x, 0, 1);
        CHECK.due("broadcast of all of it", x.broadcast(0), 2);
        List<List<String>> got = Channels.of(x);
        CHECK.due("channel (0,0)", got.get(0), List.of("2 (3,3,2)-1 (3,3,3)+2", "end -8"));
        CHECK.due("channel (0,1)", got.get(1), List.of("2 (3,3,2)-1 (3,3,3)+2", "end -8"));
    }

    private static void channelsOfOtherSendersDoNotCount() {
        ProgressTracker x = Runs.everywhere(4, 1);
        ship(x, CAPACITY, 16);
        for (int w = 1; w < 4; w++) {
            Runs.fillPending(x, w, 16);
            CHECK.due("broadcast(" + w + ") beside full channels", x.broadcast(w), 16);
        }
    }

    /** "for r = 0..W-1, one batch of n entries is appended to the end of channel (w,r)" */
    private static void oneBatchForEveryWorker() {
        for (int workers = 1; workers <= 4; workers++) {
            for (int w = 0; w < workers; w++) {
                ProgressTracker x = Runs.busy(workers);
                ProgressTracker twin = Runs.busy(workers);
                CHECK.due("broadcast(" + w + ") of " + workers, x.broadcast(w), 2);
                List<List<String>> due = Channels.of(twin);
                for (int r = 0; r < workers; r++) {
                    List<String> channel = due.get(w * 4 + r);
                    String batch = "2 " + Stamp.name(33 + w) + "+1 " + Stamp.name(48 + 2 * w) + "-2";
                    channel.add(channel.size() - 1, batch);
                }
                CHECK.due("what differs from the channels due after broadcast(" + w + ")",
                    Channels.difference(due, Channels.of(x)), "");
            }
        }
    }

    /** "the batch lists every p with pending[w][p] != 0", "each entry's delta is pending[w][p]" */
    private static void everyPointstampAndDelta() {
        int[] values = {1, 2, 7, 1000, -1, -2, -3};
        for (int p = Stamp.FIRST_OF_HEAD; p < Stamp.COUNT; p++) {
            for (int value : values) {
                ProgressTracker x = Runs.everywhere(2, Stamp.epoch(p));
                Runs.bringPendingTo(x, 0, p, value);
                CHECK.due("broadcast of " + value + " at " + Stamp.name(p), x.broadcast(0), 1);
                List<String> due = new ArrayList<>();
                due.add("1 " + Stamp.name(p) + (value > 0 ? "+" : "") + value);
                due.add("end -8");
                List<List<String>> got = Channels.of(x);
                CHECK.due("channel (0,0)", got.get(0), due);
                CHECK.due("channel (0,1)", got.get(1), due);
            }
        }
        inputsAreEntriesToo();
    }

    private static void inputsAreEntriesToo() {
        for (int e = 0; e < 3; e++) {
            ProgressTracker x = Runs.everywhere(2, e);
            Runs.need(x.advanceInput(0, e), 0);
            CHECK.due("broadcast of an advance from " + e, x.broadcast(0), 2);
            String batch = "2 (0," + e + ",0)-1 (0," + (e + 1) + ",0)+1";
            CHECK.due("channel (0,1)", Channels.of(x).get(1), List.of(batch, "end -8"));
        }
    }

    /** "Then all pending[w][p] become 0, and the answer is n (1..16)." */
    private static void answersTheNumberOfEntries() {
        for (int n = 1; n <= 16; n++) {
            ProgressTracker x = Runs.everywhere(3, 1);
            Runs.fillPending(x, 1, n);
            CHECK.due("broadcast of " + n + " entries", x.broadcast(1), n);
            CHECK.due("entries pending after it", Runs.entries(x, 1), 0);
            CHECK.due("broadcast again", x.broadcast(1), -8);
            for (int r = 0; r < 3; r++) {
                CHECK.due("batches for " + r, x.queuedBatches(1, r), 1);
                CHECK.due("deliver(1, " + r + ")", x.deliver(1, r), n);
            }
        }
    }

    /** "True counts, views, other workers' pending and channels whose sender is not w do not change." */
    private static void nothingElseChanges() {
        for (int w = 0; w < 4; w++) {
            int worker = w;
            String own = "pending[" + w + "]";
            List<String> changes = new ArrayList<>();
            changes.add(own + Stamp.name(33 + w) + " 1->0");
            changes.add(own + Stamp.name(48 + 2 * w) + " -2->0");
            for (int r = 0; r < 4; r++) {
                int waiting = Runs.busy(4).queuedBatches(w, r);
                changes.add("queue[" + w + "][" + r + "] " + waiting + "->" + (waiting + 1));
            }
            CHECK.call(Runs.busy(4), "broadcast(" + w + ") in a busy state", t -> t.broadcast(worker), 2,
                changes.toArray(new String[0]));
        }
    }

    /** "Tests, in order" */
    private static void testsComeInOrder() {
        for (int workers = 1; workers <= 4; workers++) {
            int all = workers;
            for (int w : Check.outside(workers)) {
                CHECK.changesNothing("bad worker " + w + " before nothing pending", () -> new ProgressTracker(all),
                    t -> t.broadcast(w), -1);
                CHECK.changesNothing("bad worker " + w + " before full channels",
                    () -> holding(all, 0, CAPACITY, 16, 16), t -> t.broadcast(w), -1);
            }
            for (int r = 0; r < workers; r++) {
                int slow = r;
                CHECK.changesNothing("nothing pending before a full channel", () -> holding(all, slow, CAPACITY, 16, 0),
                    t -> t.broadcast(0), -8);
            }
        }
    }
}
