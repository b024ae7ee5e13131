import java.util.ArrayDeque;
import java.util.ArrayList;
import java.util.Arrays;
import java.util.Deque;
import java.util.List;

/**
 * "What it is": the channels. A comment in quotes is the sentence of the document that the test below it holds. Each
 * run keeps a list of what it shipped, and so knows what is due.
 */
public final class ChannelsTest {
    private static final Check CHECK = new Check();
    private static final int CAPACITY = 32;

    /** A batch as the deltas at SINK pointstamps from (0,0) on: no two batches in a row are the same. */
    private record Batch(int[] deltas) {
    }

    private final int workers;
    private final ProgressTracker x;
    private final List<Deque<Batch>> channels = new ArrayList<>();
    private int shipped = 0;
    private int fullChannels = 0;
    private int refused = 0;

    private ChannelsTest(int workers) {
        this.workers = workers;
        this.x = Runs.everywhere(workers, 3);
        for (int i = 0; i < workers * workers; i++) {
            channels.add(new ArrayDeque<>());
        }
    }

    public static void main(String[] args) {
        everyOrderedPairHasAChannel();
        for (int workers = 1; workers <= 4; workers++) {
            new ChannelsTest(workers).firstInFirstOut();
        }
        thirtyTwoInTotal();
        deliveriesMakeRoomByTheirEntries();
        CHECK.end();
    }

    /** "Every ordered pair (s,r) of workers, s==r included, has a FIFO channel of batches." */
    private static void everyOrderedPairHasAChannel() {
        for (int workers = 1; workers <= 4; workers++) {
            for (int s = 0; s < workers; s++) {
                ProgressTracker x = new ProgressTracker(workers);
                Runs.oneEntryBatches(x, s, 0, 1);
                for (int i = 0; i < workers * workers; i++) {
                    int from = i / workers;
                    int to = i % workers;
                    String at = "(" + from + "," + to + ") after broadcast(" + s + ") of " + workers;
                    CHECK.due("batches in " + at, x.queuedBatches(from, to), from == s ? 1 : 0);
                    CHECK.due("delivery from " + at, x.deliver(from, to), from == s ? 1 : -8);
                    CHECK.due("view after the delivery from " + at, x.viewCount(to, 1, 0, 0), from >= s ? 1 : 0);
                }
            }
        }
    }

    /** The batches come out in the order in which they went in, whole, whatever the other channels do meanwhile. */
    private void firstInFirstOut() {
        for (int turn = 0; turn < 1500; turn++) {
            int s = turn * 7 % workers;
            ship(s, 1 + turn * 5 % 16);
            for (int i = 0; i < workers - 1 + turn % 2; i++) {
                int channel = (turn * 11 + i * 3) % (workers * workers);
                deliver(channel / workers, channel % workers);
            }
        }
        for (int i = 0; i < workers * workers; i++) {
            while (!channels.get(i).isEmpty()) {
                deliver(i / workers, i % workers);
            }
            deliver(i / workers, i % workers);
        }
        CHECK.due("isQuiet at the end", x.isQuiet(), true);
        CHECK.due("whether broadcasts were refused for room", refused > 10, true);
        CHECK.due("whether channels were filled to the last entry", fullChannels > 10, true);
    }

    /** "A channel holds at most 32 entries in total over all its batches." What does not fit is sent off in pieces. */
    private void ship(int s, int entries) {
        int most = CAPACITY;
        for (int r = 0; r < workers; r++) {
            most = Math.min(most, CAPACITY - held(s, r));
        }
        Batch batch = record(s, entries);
        if (entries <= most) {
            CHECK.due("broadcast of " + entries + " with room for " + most, x.broadcast(s), entries);
            append(s, batch);
            return;
        }
        CHECK.due("broadcast of " + entries + " with room for " + most, x.broadcast(s), -7);
        refused++;
        takeBack(s, batch, most);
        if (most > 0) {
            CHECK.due("broadcast of all that there is room for", x.broadcast(s), most);
            append(s, new Batch(Arrays.copyOf(batch.deltas, most)));
        }
    }

    private void append(int s, Batch batch) {
        for (int r = 0; r < workers; r++) {
            channels.get(s * workers + r).addLast(batch);
            fullChannels += held(s, r) == CAPACITY ? 1 : 0;
        }
    }

    private int held(int s, int r) {
        return channels.get(s * workers + r).stream().mapToInt(batch -> batch.deltas.length).sum();
    }

    private Batch record(int s, int entries) {
        shipped++;
        int[] deltas = new int[entries];
        for (int i = 0; i < entries; i++) {
            deltas[i] = 1 + (shipped + i * i) % 5;
            for (int k = 0; k < deltas[i]; k++) {
                Runs.sendTo(x, s, 48 + i);
            }
        }
        return new Batch(deltas);
    }

    /** Takes the messages of all but the first entries and drops them, so that nothing is left pending of them. */
    private void takeBack(int s, Batch batch, int kept) {
        for (int i = kept; i < batch.deltas.length; i++) {
            int p = 48 + i;
            for (int k = 0; k < batch.deltas[i]; k++) {
                Runs.need(x.receive(s, Stamp.op(p), Stamp.epoch(p), Stamp.round(p)), 0);
                Runs.dropAt(x, s, p);
            }
        }
    }

    private void deliver(int s, int r) {
        Deque<Batch> channel = channels.get(s * workers + r);
        String at = "deliver(" + s + ", " + r + ") of " + workers;
        CHECK.due("batches before " + at, x.queuedBatches(s, r), channel.size());
        if (channel.isEmpty()) {
            CHECK.call(x, at, t -> t.deliver(s, r), -8);
            return;
        }
        int[] deltas = channel.removeFirst().deltas;
        List<String> changes = new ArrayList<>();
        changes.add("queue[" + s + "][" + r + "] " + (channel.size() + 1) + "->" + channel.size());
        for (int i = 0; i < deltas.length; i++) {
            int p = 48 + i;
            int before = x.viewCount(r, Stamp.op(p), Stamp.epoch(p), Stamp.round(p));
            changes.add("view[" + r + "]" + Stamp.name(p) + " " + before + "->" + (before + deltas[i]));
        }
        CHECK.call(x, at, t -> t.deliver(s, r), deltas.length, changes.toArray(new String[0]));
    }

    /** However the 32 are spread over batches: they go in, a 33rd does not, and all come out again. */
    private static void thirtyTwoInTotal() {
        int[][] spreads = {{16, 16}, {16, 15, 1}, {1, 15, 16}, {15, 16, 1}, {1, 2, 3, 4, 5, 6, 7, 4}, {11, 10, 11},
            {8, 8, 8, 8}, {4, 4, 4, 4, 4, 4, 4, 4}, {2, 14, 2, 14}, {1, 1, 1, 1, 1, 1, 1, 9, 16}};
        for (int[] sizes : spreads) {
            for (int workers = 1; workers <= 4; workers++) {
                ChannelsTest test = new ChannelsTest(workers);
                for (int size : sizes) {
                    test.ship(workers - 1, size);
                }
                CHECK.due("entries that the test has shipped", test.held(workers - 1, 0), CAPACITY);
                CHECK.due("batches that were shipped", test.x.queuedBatches(workers - 1, 0), sizes.length);
                test.ship(workers - 1, 1);
                for (int i = 0; i <= sizes.length; i++) {
                    test.deliver(workers - 1, workers - 1);
                }
            }
        }
    }

    /** After the oldest batch is delivered to all, there is room for just as many entries as it had. */
    private static void deliveriesMakeRoomByTheirEntries() {
        for (int first = 1; first <= 16; first++) {
            for (int next = 1; next <= 16; next++) {
                ChannelsTest test = new ChannelsTest(2);
                test.ship(0, first);
                test.ship(0, 16);
                test.ship(0, Math.max(1, 16 - first));
                test.deliver(0, 0);
                test.ship(0, next);
                test.deliver(0, 1);
                test.ship(0, next);
                test.deliver(0, 1);
                test.deliver(0, 0);
            }
        }
    }
}
