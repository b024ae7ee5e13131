/** Promises 11 to 14: viewCount, pendingCount, messages and capabilities. */
public final class CountsTest {
    private static final Check CHECK = new Check();

    public static void main(String[] args) {
        ProgressTracker x = allDifferent();
        everyCount(x);
        badArgumentsAnswerZero(x);
        pendingOfEveryPointstamp();
        fewerWorkers();
        CHECK.end();
    }

    /** How many messages, and how many capabilities of worker w, stand at a pointstamp in the end. */
    private static int messagesAt(int op, int epoch, int round) {
        return op == 0 ? 0 : 1 + (op * 16 + epoch * 4 + round) % 7;
    }

    private static int capabilitiesAt(int w, int op, int epoch, int round) {
        if (op == 0) {
            return epoch == 3 && round == 0 ? 1 : 0;
        }
        return 1 + (w * 5 + op * 16 + epoch * 4 + round) % 11;
    }

    /** Every pointstamp but those at SOURCE gets counts of its own, and all workers but the last hear of all. */
    private static ProgressTracker allDifferent() {
        ProgressTracker x = new ProgressTracker(4);
        for (int epoch = 0; epoch < 4; epoch++) {
            for (int w = 0; w < 4; w++) {
                for (int round = 0; round < 4; round++) {
                    fill(x, w, epoch, round);
                }
            }
            for (int w = 0; epoch < 3 && w < 4; w++) {
                Runs.need(x.advanceInput(w, epoch), 0);
                Runs.settle(x, w);
            }
        }
        return x;
    }

    private static void fill(ProgressTracker x, int w, int epoch, int round) {
        for (int op = 1; op < 4; op++) {
            int edge = op == 2 ? 1 : op == 3 ? 3 : round == 0 ? 0 : 2;
            int from = edge == 2 ? round - 1 : round;
            for (int i = 0; i < capabilitiesAt(w, op, epoch, round); i++) {
                Runs.pass(x, w, edge, epoch, from);
            }
            for (int i = 0; w == 0 && i < messagesAt(op, epoch, round); i++) {
                Runs.need(x.send(w, edge, epoch, from), 0);
            }
        }
        Runs.settle(x, w);
    }

    private static void everyCount(ProgressTracker x) {
        for (int p = 0; p < 64; p++) {
            int op = p / 16;
            int e = p / 4 % 4;
            int r = p % 4;
            int all = messagesAt(op, e, r);
            for (int w = 0; w < 4; w++) {
                int own = capabilitiesAt(w, op, e, r);
                all += own;
                CHECK.due("capabilities of " + w + " at " + p, x.capabilities(w, op, e, r), own);
            }
            CHECK.due("messages at " + p, x.messages(op, e, r), messagesAt(op, e, r));
            for (int w = 0; w < 4; w++) {
                CHECK.due("viewCount of " + w + " at " + p, x.viewCount(w, op, e, r), all);
                CHECK.due("pendingCount of " + w + " at " + p, x.pendingCount(w, op, e, r), 0);
            }
        }
    }

    /** With a count at nearly every pointstamp, an index made of a bad argument would meet one. */
    private static void badArgumentsAnswerZero(ProgressTracker x) {
        for (int w = 0; w < 4; w++) {
            Runs.need(x.send(w, 0, 3, 0), 0);
            Runs.need(x.drop(w, 3, 3, 3), 0);
        }
        for (int p = 0; p < 64; p++) {
            int op = p / 16;
            int e = p / 4 % 4;
            int r = p % 4;
            for (int bad : Check.OUTSIDE) {
                int sum = Math.abs(x.messages(bad, e, r)) + Math.abs(x.messages(op, bad, r))
                    + Math.abs(x.messages(op, e, bad));
                CHECK.due("messages with " + bad, sum, 0);
                for (int w = 0; w < 4; w++) {
                    badArgument(x, new int[] {bad, op, e, r});
                    badArgument(x, new int[] {w, bad, e, r});
                    badArgument(x, new int[] {w, op, bad, r});
                    badArgument(x, new int[] {w, op, e, bad});
                }
            }
        }
        CHECK.call(x, "messages(9, 9, 9)", t -> t.messages(9, 9, 9), 0);
        CHECK.call(x, "viewCount(0, 1, 1, 1)", t -> t.viewCount(0, 1, 1, 1), x.viewCount(0, 1, 1, 1));
    }

    private static void badArgument(ProgressTracker x, int[] a) {
        String with = "(" + a[0] + ", " + a[1] + ", " + a[2] + ", " + a[3] + ")";
        CHECK.due("viewCount" + with, x.viewCount(a[0], a[1], a[2], a[3]), 0);
        CHECK.due("pendingCount" + with, x.pendingCount(a[0], a[1], a[2], a[3]), 0);
        CHECK.due("capabilities" + with, x.capabilities(a[0], a[1], a[2], a[3]), 0);
    }

    /** Only the last worker has pending changes, up to the last pointstamp, and below as well as above 0. */
    private static void pendingOfEveryPointstamp() {
        ProgressTracker x = allDifferent();
        for (int p = 16; p < 64; p++) {
            int op = p / 16;
            int e = p / 4 % 4;
            int r = p % 4;
            int held = x.capabilities(3, op, e, r);
            for (int i = 0; i < held; i++) {
                Runs.need(x.drop(3, op, e, r), 0);
            }
            for (int q = 0; q < 64; q++) {
                int want = q == p ? -held : 0;
                CHECK.due("pendingCount of 3 at " + q, x.pendingCount(3, q / 16, q / 4 % 4, q % 4), want);
                CHECK.due("pendingCount of 2 at " + q, x.pendingCount(2, q / 16, q / 4 % 4, q % 4), 0);
            }
            Runs.settle(x, 3);
        }
    }

    private static void fewerWorkers() {
        for (int workers = 1; workers < 4; workers++) {
            ProgressTracker x = new ProgressTracker(workers);
            badArgument(x, new int[] {workers, 0, 0, 0});
            Runs.need(x.send(workers - 1, 0, 0, 0), 0);
            CHECK.due("pendingCount of the last worker", x.pendingCount(workers - 1, 1, 0, 0), 1);
            CHECK.due("capabilities of the last worker", x.capabilities(workers - 1, 0, 0, 0), 1);
            CHECK.due("viewCount of the last worker", x.viewCount(workers - 1, 0, 0, 0), workers);
        }
    }
}
