/** Tracks the progress of several workers over a cyclic dataflow graph, as DOC.md promises. */
public final class ProgressTracker {
    public static final int OK = 0;
    public static final int BAD_ARG = -1;
    public static final int NO_CAPABILITY = -2;
    public static final int NO_MESSAGE = -3;
    public static final int ROUND_LIMIT = -4;
    public static final int EPOCH_LIMIT = -5;
    public static final int PENDING_FULL = -6;
    public static final int CHANNEL_FULL = -7;
    public static final int EMPTY = -8;
    public static final int SOURCE = 0;
    public static final int HEAD = 1;
    public static final int BODY = 2;
    public static final int SINK = 3;
    public static final int FEEDBACK_EDGE = 2;
    public static final int MAX_PENDING = 16;
    public static final int CHANNEL_CAPACITY = 32;

    // Operators, edges, epochs and rounds all run from 0 to LAST.
    private static final int LAST = 3;
    private static final int MAX_WORKERS = 4;

    // A pointstamp's index is op*OP_STEP + epoch*EPOCH_STEP + round.
    private static final int OP_STEP = 16;
    private static final int EPOCH_STEP = 4;
    private static final int POINTS = 64;

    // Arrays have one dimension only, so the tables lie flat: a worker has POINTS
    // places in a row, a channel CHANNEL_CAPACITY places in a row.
    private static final int WORKER_POINTS = 256;
    private static final int CHANNELS = 16;
    private static final int CHANNEL_PLACES = 512;

    // A frontier element is answered as epoch*FRONTIER_STEP + round: its round may be 4,
    // which a step of 4 would mistake for the next epoch.
    private static final int FRONTIER_STEP = 16;
    private static final int NO_ELEMENT = -1;

    // The summary of two operators without a path between them.
    private static final int NONE = -1;

    // Greater than 4, the greatest round that a frontier element can have.
    private static final int NO_ROUND = 5;

    private final int workerCount;

    private final int[] msgs = new int[POINTS];
    private final int[] caps = new int[WORKER_POINTS];
    private final int[] pending = new int[WORKER_POINTS];
    private final int[] view = new int[WORKER_POINTS];

    // A channel's oldest batch and oldest entry stand at its first places. A batch has an
    // entry or more, so a channel never holds more batches than it has places for entries.
    private final int[] batchCount = new int[CHANNELS];
    private final int[] batchSize = new int[CHANNEL_PLACES];
    private final int[] entryCount = new int[CHANNELS];
    private final int[] entryPoint = new int[CHANNEL_PLACES];
    private final int[] entryDelta = new int[CHANNEL_PLACES];

    public ProgressTracker(int workers) {
        workerCount = workers < 1 ? 1 : workers > MAX_WORKERS ? MAX_WORKERS : workers;
        for (int w = 0; w < workerCount; w++) {
            caps[w * POINTS] = 1;
            view[w * POINTS] = workerCount;
        }
    }

    public int send(int w, int edge, int epoch, int round) {
        if (!isWorker(w) || !areInRange(edge, epoch, round)) {
            return BAD_ARG;
        }
        int from = operatorBefore(edge);
        if (caps[placeOf(w, from, epoch, round)] == 0) {
            return NO_CAPABILITY;
        }
        int sentRound = edge == FEEDBACK_EDGE ? round + 1 : round;
        if (sentRound > LAST) {
            return ROUND_LIMIT;
        }
        int to = operatorAfter(edge);
        int place = placeOf(w, to, epoch, sentRound);
        if (pendingEntries(w) + entriesGained(place, 1) > MAX_PENDING) {
            return PENDING_FULL;
        }
        msgs[pointOf(to, epoch, sentRound)]++;
        pending[place]++;
        return OK;
    }

    public int receive(int w, int op, int epoch, int round) {
        if (!isWorker(w) || !areInRange(op, epoch, round)) {
            return BAD_ARG;
        }
        int point = pointOf(op, epoch, round);
        if (msgs[point] == 0) {
            return NO_MESSAGE;
        }
        msgs[point]--;
        caps[placeOf(w, op, epoch, round)]++;
        return OK;
    }

    public int drop(int w, int op, int epoch, int round) {
        if (!isWorker(w) || !areInRange(op, epoch, round)) {
            return BAD_ARG;
        }
        int place = placeOf(w, op, epoch, round);
        if (caps[place] == 0) {
            return NO_CAPABILITY;
        }
        if (pendingEntries(w) + entriesGained(place, -1) > MAX_PENDING) {
            return PENDING_FULL;
        }
        caps[place]--;
        pending[place]--;
        return OK;
    }

    public int advanceInput(int w, int epoch) {
        if (!isWorker(w) || !isInRange(epoch)) {
            return BAD_ARG;
        }
        int old = placeOf(w, SOURCE, epoch, 0);
        if (caps[old] == 0) {
            return NO_CAPABILITY;
        }
        if (epoch == LAST) {
            return EPOCH_LIMIT;
        }
        int next = placeOf(w, SOURCE, epoch + 1, 0);
        // Only the sum of both changes counts: one may free the entry that the other needs.
        int gained = entriesGained(old, -1) + entriesGained(next, 1);
        if (pendingEntries(w) + gained > MAX_PENDING) {
            return PENDING_FULL;
        }
        caps[old]--;
        pending[old]--;
        caps[next]++;
        pending[next]++;
        return OK;
    }

    public int broadcast(int w) {
        if (!isWorker(w)) {
            return BAD_ARG;
        }
        int entries = pendingEntries(w);
        if (entries == 0) {
            return EMPTY;
        }
        if (!haveChannelsRoom(w, entries)) {
            return CHANNEL_FULL;
        }
        for (int r = 0; r < workerCount; r++) {
            appendPending(w, r, entries);
        }
        clearPending(w);
        return entries;
    }

    public int deliver(int s, int r) {
        if (!isWorker(s) || !isWorker(r)) {
            return BAD_ARG;
        }
        int channel = channelOf(s, r);
        if (batchCount[channel] == 0) {
            return EMPTY;
        }
        int entries = batchSize[channel * CHANNEL_CAPACITY];
        applyOldest(channel, r, entries);
        removeOldestEntries(channel, entries);
        removeOldestSize(channel);
        return entries;
    }

    public boolean canReach(int w, int op, int epoch, int round) {
        if (!isWorker(w) || !areInRange(op, epoch, round)) {
            return false;
        }
        for (int point = 0; point < POINTS; point++) {
            if (view[w * POINTS + point] > 0 && couldResultIn(point, op, epoch, round)) {
                return true;
            }
        }
        return false;
    }

    public boolean couldArrive(int op, int epoch, int round) {
        if (!areInRange(op, epoch, round)) {
            return false;
        }
        for (int point = 0; point < POINTS; point++) {
            if (occurrences(point) > 0 && couldResultIn(point, op, epoch, round)) {
                return true;
            }
        }
        return false;
    }

    public int frontierSize(int w, int op) {
        if (!isWorker(w) || !isInRange(op)) {
            return 0;
        }
        int size = 0;
        int lowest = NO_ROUND;
        for (int epoch = 0; epoch <= LAST; epoch++) {
            int round = leastRound(w, op, epoch);
            // Every earlier epoch with a round as low is <= this one, so only a lower round stays.
            if (round < lowest) {
                lowest = round;
                size++;
            }
        }
        return size;
    }

    public int frontierElement(int w, int op, int index) {
        if (!isWorker(w) || !isInRange(op)) {
            return NO_ELEMENT;
        }
        int size = 0;
        int lowest = NO_ROUND;
        for (int epoch = 0; epoch <= LAST; epoch++) {
            int round = leastRound(w, op, epoch);
            if (round < lowest) {
                if (size == index) {
                    return epoch * FRONTIER_STEP + round;
                }
                lowest = round;
                size++;
            }
        }
        return NO_ELEMENT;
    }

    public int viewCount(int w, int op, int epoch, int round) {
        if (!isWorker(w) || !areInRange(op, epoch, round)) {
            return 0;
        }
        return view[placeOf(w, op, epoch, round)];
    }

    public int pendingCount(int w, int op, int epoch, int round) {
        if (!isWorker(w) || !areInRange(op, epoch, round)) {
            return 0;
        }
        return pending[placeOf(w, op, epoch, round)];
    }

    public int messages(int op, int epoch, int round) {
        if (!areInRange(op, epoch, round)) {
            return 0;
        }
        return msgs[pointOf(op, epoch, round)];
    }

    public int capabilities(int w, int op, int epoch, int round) {
        if (!isWorker(w) || !areInRange(op, epoch, round)) {
            return 0;
        }
        return caps[placeOf(w, op, epoch, round)];
    }

    public int queuedBatches(int s, int r) {
        if (!isWorker(s) || !isWorker(r)) {
            return 0;
        }
        return batchCount[channelOf(s, r)];
    }

    public boolean isQuiet() {
        for (int w = 0; w < workerCount; w++) {
            if (pendingEntries(w) != 0) {
                return false;
            }
        }
        for (int channel = 0; channel < CHANNELS; channel++) {
            if (batchCount[channel] != 0) {
                return false;
            }
        }
        return true;
    }

    private boolean isWorker(int w) {
        return w >= 0 && w < workerCount;
    }

    private static boolean isInRange(int value) {
        return value >= 0 && value <= LAST;
    }

    private static boolean areInRange(int opOrEdge, int epoch, int round) {
        return isInRange(opOrEdge) && isInRange(epoch) && isInRange(round);
    }

    private static int pointOf(int op, int epoch, int round) {
        return op * OP_STEP + epoch * EPOCH_STEP + round;
    }

    private static int placeOf(int w, int op, int epoch, int round) {
        return w * POINTS + pointOf(op, epoch, round);
    }

    private static int channelOf(int s, int r) {
        return s * MAX_WORKERS + r;
    }

    private static int operatorBefore(int edge) {
        switch (edge) {
            case 0:
                return SOURCE;
            case 1:
                return HEAD;
            default:
                return BODY;
        }
    }

    private static int operatorAfter(int edge) {
        switch (edge) {
            case 1:
                return BODY;
            case 3:
                return SINK;
            default:
                return HEAD;
        }
    }

    /** The document's K[from][to]. */
    private static int leastFeedbacks(int from, int to) {
        if (from == to) {
            return 0;
        }
        if (from == SINK || to == SOURCE) {
            return NONE;
        }
        return from == BODY && to == HEAD ? 1 : 0;
    }

    private static boolean couldResultIn(int point, int op, int epoch, int round) {
        int feedbacks = leastFeedbacks(point / OP_STEP, op);
        int earliestEpoch = point % OP_STEP / EPOCH_STEP;
        int earliestRound = point % EPOCH_STEP + feedbacks;
        return feedbacks != NONE && earliestEpoch <= epoch && earliestRound <= round;
    }

    private long occurrences(int point) {
        long sum = msgs[point];
        for (int w = 0; w < workerCount; w++) {
            sum += caps[w * POINTS + point];
        }
        return sum;
    }

    /** The least round that the view of w lets arrive at op in just this epoch, or NO_ROUND. */
    private int leastRound(int w, int op, int epoch) {
        int least = NO_ROUND;
        for (int from = 0; from <= LAST; from++) {
            int feedbacks = leastFeedbacks(from, op);
            for (int round = 0; round <= LAST; round++) {
                boolean counts = feedbacks != NONE && view[placeOf(w, from, epoch, round)] > 0;
                if (counts && round + feedbacks < least) {
                    least = round + feedbacks;
                }
            }
        }
        return least;
    }

    private int pendingEntries(int w) {
        int entries = 0;
        for (int point = 0; point < POINTS; point++) {
            if (pending[w * POINTS + point] != 0) {
                entries++;
            }
        }
        return entries;
    }

    /** By how much the pending entries grow when delta is added at this place: -1, 0 or 1. */
    private int entriesGained(int place, int delta) {
        int before = pending[place] == 0 ? 0 : 1;
        int after = pending[place] + delta == 0 ? 0 : 1;
        return after - before;
    }

    private void clearPending(int w) {
        for (int point = 0; point < POINTS; point++) {
            pending[w * POINTS + point] = 0;
        }
    }

    private boolean haveChannelsRoom(int s, int entries) {
        for (int r = 0; r < workerCount; r++) {
            if (entryCount[channelOf(s, r)] > CHANNEL_CAPACITY - entries) {
                return false;
            }
        }
        return true;
    }

    private void appendPending(int s, int r, int entries) {
        int channel = channelOf(s, r);
        int first = channel * CHANNEL_CAPACITY;
        int free = first + entryCount[channel];
        for (int point = 0; point < POINTS; point++) {
            int delta = pending[s * POINTS + point];
            if (delta != 0) {
                entryPoint[free] = point;
                entryDelta[free] = delta;
                free++;
            }
        }
        batchSize[first + batchCount[channel]] = entries;
        batchCount[channel]++;
        entryCount[channel] += entries;
    }

    private void applyOldest(int channel, int r, int entries) {
        int first = channel * CHANNEL_CAPACITY;
        for (int i = 0; i < entries; i++) {
            view[r * POINTS + entryPoint[first + i]] += entryDelta[first + i];
        }
    }

    private void removeOldestEntries(int channel, int entries) {
        int first = channel * CHANNEL_CAPACITY;
        int left = entryCount[channel] - entries;
        for (int i = 0; i < left; i++) {
            entryPoint[first + i] = entryPoint[first + i + entries];
            entryDelta[first + i] = entryDelta[first + i + entries];
        }
        entryCount[channel] = left;
    }

    private void removeOldestSize(int channel) {
        int first = channel * CHANNEL_CAPACITY;
        int left = batchCount[channel] - 1;
        for (int i = 0; i < left; i++) {
            batchSize[first + i] = batchSize[first + i + 1];
        }
        batchCount[channel] = left;
    }
}
