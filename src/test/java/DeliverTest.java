import java.util.ArrayDeque;
import java.util.ArrayList;
import java.util.Deque;
import java.util.List;

/** Promise 7. A comment in quotes is the sentence of the document that the test below it holds. */
public final class DeliverTest {
    private static final Check CHECK = new Check();

    public static void main(String[] args) {
        senderNotInRange();
        receiverNotInRange();
        emptyFromTheStart();
        emptyAfterTheLastBatch();
        emptyBesideFullChannels();
        oldestBatchFirst();
        answersTheEntryCount();
        fullChannelOfSmallBatches();
        batchesBeginAtEveryPlace();
        channelsOutliveManyBatches();
        viewsMayBeNegative();
        onlyOneViewAndOneChannelChange();
        testsComeInOrder();
        CHECK.end();
    }

    /** "s or r is not in range: answers BAD_ARG" */
    private static void senderNotInRange() {
        for (int workers = 1; workers <= 4; workers++) {
            int all = workers;
            for (int s : Check.outside(workers)) {
                for (int r = 0; r < workers; r++) {
                    int to = r;
                    CHECK.changesNothing("deliver(" + s + ", " + r + ") of " + all, () -> Runs.busy(all),
                        t -> t.deliver(s, to), -1);
                }
            }
        }
    }

    private static void receiverNotInRange() {
        for (int workers = 1; workers <= 4; workers++) {
            int all = workers;
            for (int r : Check.outside(workers)) {
                for (int s = 0; s < workers; s++) {
                    int from = s;
                    CHECK.changesNothing("deliver(" + s + ", " + r + ") of " + all, () -> Runs.busy(all),
                        t -> t.deliver(from, r), -1);
                }
                CHECK.changesNothing("deliver(" + r + ", " + r + ") of " + all, () -> Runs.busy(all),
                    t -> t.deliver(r, r), -1);
            }
        }
    }

    /** "Channel (s,r) is empty: answers EMPTY" */
    private static void emptyFromTheStart() {
        for (int workers = 1; workers <= 4; workers++) {
            int all = workers;
            for (int i = 0; i < workers * workers; i++) {
                int s = i / workers;
                int r = i % workers;
                CHECK.changesNothing("deliver(" + s + ", " + r + ") at the start", () -> new ProgressTracker(all),
                    t -> t.deliver(s, r), -8);
                CHECK.changesNothing("deliver(" + s + ", " + r + ") of what is not broadcast", () -> {
                    ProgressTracker x = Runs.everywhere(all, 1);
                    Runs.fillPending(x, s, 16);
                    return x;
                }, t -> t.deliver(s, r), -8);
            }
        }
    }

    private static void emptyAfterTheLastBatch() {
        for (int i = 0; i < 16; i++) {
            int s = i / 4;
            int r = i % 4;
            CHECK.changesNothing("deliver(" + s + ", " + r + ") after the last batch", () -> {
                ProgressTracker x = Runs.busy(4);
                Runs.deliverAll(x, s, r);
                return x;
            }, t -> t.deliver(s, r), -8);
        }
    }

    /** Only this one channel is empty, each other one holds 32 entries. */
    private static void emptyBesideFullChannels() {
        for (int i = 0; i < 16; i++) {
            int s = i / 4;
            int r = i % 4;
            CHECK.changesNothing("deliver(" + s + ", " + r + ") beside full channels", () -> {
                ProgressTracker x = allFull();
                Runs.deliverAll(x, s, r);
                return x;
            }, t -> t.deliver(s, r), -8);
        }
    }

    private static ProgressTracker allFull() {
        ProgressTracker x = new ProgressTracker(4);
        for (int w = 0; w < 4; w++) {
            Runs.oneEntryBatches(x, w, 0, 32);
        }
        return x;
    }

    /** "removes the oldest batch of channel (s,r)" */
    private static void oldestBatchFirst() {
        ProgressTracker x = new ProgressTracker(2);
        Runs.need(x.send(0, 0, 0, 0), 0);
        Runs.need(x.broadcast(0), 1);
        Runs.need(x.advanceInput(0, 0), 0);
        Runs.need(x.send(0, 0, 1, 0), 0);
        Runs.need(x.send(0, 0, 1, 0), 0);
        Runs.need(x.broadcast(0), 3);
        Runs.need(x.drop(0, 0, 1, 0), 0);
        Runs.need(x.receive(0, 1, 0, 0), 0);
        Runs.need(x.drop(0, 1, 0, 0), 0);
        Runs.need(x.broadcast(0), 2);
        CHECK.call(x, "the first deliver(0, 1)", t -> t.deliver(0, 1), 1,
            "queue[0][1] 3->2", "view[1](1,0,0) 0->1");
        CHECK.call(x, "the second deliver(0, 1)", t -> t.deliver(0, 1), 3,
            "queue[0][1] 2->1", "view[1](0,0,0) 2->1", "view[1](0,1,0) 0->1", "view[1](1,1,0) 0->2");
        Runs.need(x.send(1, 0, 0, 0), 0);
        Runs.need(x.broadcast(1), 1);
        CHECK.call(x, "the third deliver(0, 1)", t -> t.deliver(0, 1), 2,
            "queue[0][1] 1->0", "view[1](0,1,0) 1->0", "view[1](1,0,0) 1->0");
        CHECK.call(x, "deliver(1, 0) in between", t -> t.deliver(1, 0), 1,
            "queue[1][0] 1->0", "view[0](1,0,0) 0->1");
        CHECK.call(x, "the first deliver(0, 0)", t -> t.deliver(0, 0), 1,
            "queue[0][0] 3->2", "view[0](1,0,0) 1->2");
    }

    /** Ships +1 at the first SINK pointstamp, +2 at the second and so on, and says what its delivery is to show. */
    private static String ship(ProgressTracker x, int w, int entries) {
        StringBuilder text = new StringBuilder().append(entries);
        for (int i = 0; i < entries; i++) {
            for (int k = 0; k <= i; k++) {
                Runs.sendTo(x, w, 48 + i);
            }
            text.append(' ').append(Stamp.name(48 + i)).append('+').append(i + 1);
        }
        Runs.need(x.broadcast(w), entries);
        return text.toString();
    }

    /** "The answer is the batch's entry count." */
    private static void answersTheEntryCount() {
        for (int n = 1; n <= 16; n++) {
            for (int i = 0; i < 9; i++) {
                ProgressTracker x = Runs.everywhere(3, 1);
                String batch = ship(x, i / 3, n);
                CHECK.due("channel (" + i / 3 + "," + i % 3 + ") with a batch of " + n,
                    Channels.of(x).get(i / 3 * 4 + i % 3), List.of(batch, "end -8"));
            }
        }
    }

    private static void fullChannelOfSmallBatches() {
        ProgressTracker x = allFull();
        for (int s = 3; s >= 0; s--) {
            for (int r = 3; r >= 0; r--) {
                for (int i = 0; i < 32; i++) {
                    CHECK.due("deliver(" + s + ", " + r + ")", x.deliver(s, r), 1);
                }
                CHECK.due("deliver(" + s + ", " + r + ") at the end", x.deliver(s, r), -8);
                CHECK.due("view of " + r + " after " + s, x.viewCount(r, 1, 0, 0), 32 * (4 - s));
            }
        }
    }

    /** However many entries went through a channel before: what fills it is then delivered as it was shipped. */
    private static void batchesBeginAtEveryPlace() {
        int[][] fillings = {{16, 16}, {16, 15, 1}, {1, 15, 16}, {1, 16, 15}, {5, 11, 16}, {10, 11, 11}, {3, 16, 13}};
        for (int before = 0; before <= 64; before++) {
            for (int[] sizes : fillings) {
                ProgressTracker x = Runs.everywhere(1, 3);
                for (int i = 0; i < before; i++) {
                    ship(x, 0, 1);
                    Runs.need(x.deliver(0, 0), 1);
                }
                List<String> due = new ArrayList<>();
                for (int size : sizes) {
                    due.add(ship(x, 0, size));
                }
                Runs.sendTo(x, 0, 63);
                CHECK.due("broadcast of a 33rd entry", x.broadcast(0), -7);
                due.add("end -8");
                CHECK.due("a full channel after " + before + " batches", Channels.of(x).get(0), due);
            }
        }
    }

    /** Batches of all sizes go in as long as they fit, and out one at a time, in the order in which they came. */
    private static void channelsOutliveManyBatches() {
        ProgressTracker x = Runs.everywhere(1, 3);
        Deque<Integer> waiting = new ArrayDeque<>();
        int held = 0;
        for (int i = 0; i < 2000; i++) {
            int size = 1 + i * 7 % 16;
            while (held + size > 32) {
                int oldest = waiting.removeFirst();
                CHECK.due("deliver in turn " + i, x.deliver(0, 0), oldest);
                held -= oldest;
            }
            ship(x, 0, size);
            waiting.addLast(size);
            held += size;
            CHECK.due("queuedBatches in turn " + i, x.queuedBatches(0, 0), waiting.size());
        }
        while (!waiting.isEmpty()) {
            CHECK.due("deliver at the end", x.deliver(0, 0), waiting.removeFirst());
        }
        CHECK.due("deliver after the end", x.deliver(0, 0), -8);
        for (int p = 48; p < 64; p++) {
            int all = x.messages(3, Stamp.epoch(p), Stamp.round(p)) + Runs.held(x, 0, p);
            CHECK.due("view at " + Stamp.name(p), x.viewCount(0, 3, Stamp.epoch(p), Stamp.round(p)), all);
        }
    }

    /** "View counts may become negative." */
    private static void viewsMayBeNegative() {
        for (int p = Stamp.FIRST_OF_HEAD; p < Stamp.COUNT; p++) {
            ProgressTracker x = new ProgressTracker(2);
            Runs.holdBefore(x, 0, p);
            Runs.settle(x, 0);
            handOver(x, p, 5);
            String at = Stamp.name(p);
            CHECK.call(x, "deliver(1, 0)", t -> t.deliver(1, 0), 1, "queue[1][0] 1->0", "view[0]" + at + " 0->-5");
            CHECK.call(x, "deliver(1, 1)", t -> t.deliver(1, 1), 1, "queue[1][1] 1->0", "view[1]" + at + " 0->-5");
            CHECK.call(x, "deliver(0, 0)", t -> t.deliver(0, 0), 1, "queue[0][0] 1->0", "view[0]" + at + " -5->0");
        }
    }

    /** Worker 0 sends messages that worker 1 takes and drops; both broadcast that. */
    private static void handOver(ProgressTracker x, int p, int count) {
        for (int i = 0; i < count; i++) {
            Runs.sendTo(x, 0, p);
            Runs.need(x.receive(1, Stamp.op(p), Stamp.epoch(p), Stamp.round(p)), 0);
            Runs.dropAt(x, 1, p);
        }
        Runs.need(x.broadcast(0), 1);
        Runs.need(x.broadcast(1), 1);
    }

    /** "Only view[r] and channel (s,r) change." */
    private static void onlyOneViewAndOneChannelChange() {
        for (int i = 0; i < 16; i++) {
            int s = i / 4;
            int r = i % 4;
            ProgressTracker x = Runs.busy(4);
            List<List<String>> due = Channels.of(Runs.busy(4));
            due.get(i).remove(0);
            int[] before = Counts.of(x);
            CHECK.due("deliver(" + s + ", " + r + ")", x.deliver(s, r), 2);
            CHECK.due("what deliver(" + s + ", " + r + ") changed", Counts.difference(before, Counts.of(x)),
                changesOfTheOldest(s, r));
            CHECK.due("which other batches it changed", Channels.difference(due, Channels.of(x)), "");
        }
    }

    /** In the busy state each of a worker's three batches has -1 at a HEAD pointstamp and +2 at a later one. */
    private static String changesOfTheOldest(int s, int r) {
        ProgressTracker x = Runs.busy(4);
        int waiting = x.queuedBatches(s, r);
        int dropped = 20 + 3 * s + 3 - waiting;
        int sent = 40 + 5 * s + 3 - waiting;
        return "queue[" + s + "][" + r + "] " + waiting + "->" + (waiting - 1)
            + "; " + viewChange(x, r, dropped, -1) + "; " + viewChange(x, r, sent, 2);
    }

    private static String viewChange(ProgressTracker x, int r, int p, int delta) {
        int count = x.viewCount(r, Stamp.op(p), Stamp.epoch(p), Stamp.round(p));
        return "view[" + r + "]" + Stamp.name(p) + " " + count + "->" + (count + delta);
    }

    /** "Tests, in order" */
    private static void testsComeInOrder() {
        for (int workers = 1; workers <= 4; workers++) {
            int all = workers;
            for (int bad : Check.outside(workers)) {
                CHECK.changesNothing("bad sender " + bad + " before an empty channel", () -> new ProgressTracker(all),
                    t -> t.deliver(bad, 0), -1);
                CHECK.changesNothing("bad receiver " + bad + " before an empty channel", () -> new ProgressTracker(all),
                    t -> t.deliver(all - 1, bad), -1);
            }
        }
    }
}
