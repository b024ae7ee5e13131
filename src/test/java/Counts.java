/** Every count that an object answers, of all workers that there can be, in the order of their names. */
final class Counts {
    private static final int WORKERS = 4;
    private static final int MSGS = WORKERS * Stamp.COUNT;
    private static final int PENDING = MSGS + Stamp.COUNT;
    private static final int QUEUES = PENDING + WORKERS * Stamp.COUNT;
    private static final int VIEW = QUEUES + WORKERS * WORKERS;
    static final int SIZE = VIEW + WORKERS * Stamp.COUNT;

    private Counts() {
    }

    static int[] of(ProgressTracker x) {
        int[] all = new int[SIZE];
        for (int p = 0; p < Stamp.COUNT; p++) {
            int op = Stamp.op(p);
            int e = Stamp.epoch(p);
            int r = Stamp.round(p);
            all[MSGS + p] = x.messages(op, e, r);
            for (int w = 0; w < WORKERS; w++) {
                all[w * Stamp.COUNT + p] = x.capabilities(w, op, e, r);
                all[PENDING + w * Stamp.COUNT + p] = x.pendingCount(w, op, e, r);
                all[VIEW + w * Stamp.COUNT + p] = x.viewCount(w, op, e, r);
            }
        }
        for (int i = 0; i < WORKERS * WORKERS; i++) {
            all[QUEUES + i] = x.queuedBatches(i / WORKERS, i % WORKERS);
        }
        return all;
    }

    static String name(int i) {
        if (i < MSGS) {
            return ofWorker("caps", i);
        }
        if (i < PENDING) {
            return "msgs" + Stamp.name(i - MSGS);
        }
        if (i < QUEUES) {
            return ofWorker("pending", i - PENDING);
        }
        if (i < VIEW) {
            return "queue[" + (i - QUEUES) / WORKERS + "][" + (i - QUEUES) % WORKERS + "]";
        }
        return ofWorker("view", i - VIEW);
    }

    private static String ofWorker(String kind, int i) {
        return kind + "[" + i / Stamp.COUNT + "]" + Stamp.name(i % Stamp.COUNT);
    }

    /** The counts that differ, as "name old->new", one after the other with "; " between them. */
    static String difference(int[] before, int[] after) {
        StringBuilder text = new StringBuilder();
        for (int i = 0; i < SIZE; i++) {
            if (before[i] != after[i]) {
                text.append(text.length() == 0 ? "" : "; ");
                text.append(name(i)).append(' ').append(before[i]).append("->").append(after[i]);
            }
        }
        return text.toString();
    }
}
