import java.util.ArrayList;
import java.util.Arrays;
import java.util.List;

/** "Every refused call answers its code and changes nothing. Arguments may be any ints." */
public final class AnyIntsTest {
    private static final Check CHECK = new Check();

    /** Ints below, at and above the edges of 0..3, some that an index or an overflow may mistake, and the two ends. */
    private static final int[] NUMBERS = {Integer.MIN_VALUE, -64, -16, -4, -1, 0, 3, 4, 16, 64,
        1 << 26, 1 << 28, 1 << 30, Integer.MAX_VALUE};

    interface Method {
        int on(ProgressTracker x, int[] a);
    }

    private final int workers;
    private final int[] workerNumbers;
    private final ProgressTracker object;
    private final int[] counts;

    private AnyIntsTest(int workers) {
        this.workers = workers;
        this.workerNumbers = Arrays.copyOf(NUMBERS, NUMBERS.length + 2);
        workerNumbers[NUMBERS.length] = workers - 1;
        workerNumbers[NUMBERS.length + 1] = workers;
        this.object = Runs.busy(workers);
        this.counts = Counts.of(object);
    }

    public static void main(String[] args) {
        for (int workers = 1; workers <= 4; workers++) {
            AnyIntsTest test = new AnyIntsTest(workers);
            test.refusals();
            test.questions();
            test.channelsAreAsBefore();
            inRangeIsNeverBad(workers);
        }
        CHECK.end();
    }

    private void refusals() {
        outOfRange("send", "wnnn", -1, (x, a) -> x.send(a[0], a[1], a[2], a[3]));
        outOfRange("receive", "wnnn", -1, (x, a) -> x.receive(a[0], a[1], a[2], a[3]));
        outOfRange("drop", "wnnn", -1, (x, a) -> x.drop(a[0], a[1], a[2], a[3]));
        outOfRange("advanceInput", "wn", -1, (x, a) -> x.advanceInput(a[0], a[1]));
        outOfRange("broadcast", "w", -1, (x, a) -> x.broadcast(a[0]));
        outOfRange("deliver", "ww", -1, (x, a) -> x.deliver(a[0], a[1]));
    }

    private void questions() {
        outOfRange("canReach", "wnnn", 0, (x, a) -> x.canReach(a[0], a[1], a[2], a[3]) ? 1 : 0);
        outOfRange("couldArrive", "nnn", 0, (x, a) -> x.couldArrive(a[0], a[1], a[2]) ? 1 : 0);
        outOfRange("frontierSize", "wn", 0, (x, a) -> x.frontierSize(a[0], a[1]));
        outOfRange("viewCount", "wnnn", 0, (x, a) -> x.viewCount(a[0], a[1], a[2], a[3]));
        outOfRange("pendingCount", "wnnn", 0, (x, a) -> x.pendingCount(a[0], a[1], a[2], a[3]));
        outOfRange("messages", "nnn", 0, (x, a) -> x.messages(a[0], a[1], a[2]));
        outOfRange("capabilities", "wnnn", 0, (x, a) -> x.capabilities(a[0], a[1], a[2], a[3]));
        outOfRange("queuedBatches", "ww", 0, (x, a) -> x.queuedBatches(a[0], a[1]));
        for (int index : NUMBERS) {
            outOfRange("frontierElement with " + index, "wn", -1, (x, a) -> x.frontierElement(a[0], a[1], index));
        }
    }

    /** Every combination of the numbers with at least one out of its range; in kinds, w stands for a worker, n for 0..3. */
    private void outOfRange(String name, String kinds, int want, Method method) {
        int[] a = new int[kinds.length()];
        int[] at = new int[kinds.length()];
        int done = 0;
        while (done < kinds.length()) {
            boolean bad = false;
            for (int i = 0; i < a.length; i++) {
                boolean ofWorker = kinds.charAt(i) == 'w';
                a[i] = ofWorker ? workerNumbers[at[i]] : NUMBERS[at[i]];
                bad = bad || a[i] < 0 || a[i] >= (ofWorker ? workers : 4);
            }
            if (bad) {
                CHECK.dueOften(() -> name + Arrays.toString(a) + " of " + workers, method.on(object, a), want);
            }
            done = next(at, kinds);
            if (done > 0) {
                String changed = Counts.difference(counts, Counts.of(object));
                CHECK.due("what " + name + " up to " + Arrays.toString(a) + " changed", changed, "");
            }
        }
    }

    /** Counts the places up, the last one fastest, and says how many places ran over. */
    private int next(int[] at, String kinds) {
        for (int i = at.length - 1; i >= 0; i--) {
            at[i]++;
            if (at[i] < (kinds.charAt(i) == 'w' ? workerNumbers.length : NUMBERS.length)) {
                return at.length - 1 - i;
            }
            at[i] = 0;
        }
        return at.length;
    }

    private void channelsAreAsBefore() {
        List<List<String>> due = Channels.of(Runs.busy(workers));
        CHECK.due("which channels changed", Channels.difference(due, Channels.of(object)), "");
    }

    /** Each number in its range is taken, though the call may be refused for another reason. */
    private static void inRangeIsNeverBad(int workers) {
        List<ProgressTracker> states = new ArrayList<>();
        states.add(new ProgressTracker(workers));
        states.add(Runs.fullPending(workers));
        states.add(Runs.busy(workers));
        for (ProgressTracker x : states) {
            for (int i = 0; i < workers * Stamp.COUNT; i++) {
                int w = i / Stamp.COUNT;
                int p = i % Stamp.COUNT;
                isNotBad("send", x.send(w, Stamp.op(p), Stamp.epoch(p), Stamp.round(p)), w, p);
                isNotBad("receive", x.receive(w, Stamp.op(p), Stamp.epoch(p), Stamp.round(p)), w, p);
                isNotBad("drop", x.drop(w, Stamp.op(p), Stamp.epoch(p), Stamp.round(p)), w, p);
                isNotBad("advanceInput", x.advanceInput(w, p % 4), w, p % 4);
                isNotBad("broadcast", x.broadcast(w), w);
                isNotBad("deliver", x.deliver(w, p % workers), w, p % workers);
            }
        }
    }

    private static void isNotBad(String name, int answer, int... args) {
        CHECK.due("whether " + name + Arrays.toString(args) + " is BAD_ARG", answer == ProgressTracker.BAD_ARG, false);
    }
}
