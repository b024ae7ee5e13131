/** Promise 4. A comment in quotes is the sentence of the document that the test below it holds. */
public final class DropTest {
    private static final Check CHECK = new Check();

    public static void main(String[] args) {
        workerNotInRange();
        operatorNotInRange();
        epochNotInRange();
        roundNotInRange();
        withoutCapability();
        lastCapability();
        inputs();
        whatIsNoCapabilityOfTheWorker();
        seventeenthEntry();
        sixteenthEntry();
        nonzeroAddsNoEntry();
        plusOneRemovesAnEntry();
        buffersOfOthersDoNotCount();
        nothingElseChanges();
        testsComeInOrder();
        CHECK.end();
    }

    /** "w is not in range [...]: answers BAD_ARG" */
    private static void workerNotInRange() {
        for (int workers = 1; workers <= 4; workers++) {
            int all = workers;
            for (int w : Check.outside(workers)) {
                CHECK.changesNothing("drop(" + w + ", 1, 1, 1) of " + all, () -> Runs.busy(all),
                    t -> t.drop(w, 1, 1, 1), -1);
            }
            CHECK.step("drop by the last of " + all, () -> Runs.busy(all), t -> t.drop(all - 1, 1, 0, 0), 0,
                "caps[" + (all - 1) + "](1,0,0) 3->2", "pending[" + (all - 1) + "](1,0,0) 0->-1");
        }
    }

    /** "op, epoch or round is not in 0..3: answers BAD_ARG" */
    private static void operatorNotInRange() {
        for (int op : Check.OUTSIDE) {
            CHECK.changesNothing("drop(0, " + op + ", 1, 1)", () -> Runs.busy(2), t -> t.drop(0, op, 1, 1), -1);
        }
    }

    private static void epochNotInRange() {
        for (int epoch : Check.OUTSIDE) {
            CHECK.changesNothing("drop(0, 2, " + epoch + ", 1)", () -> Runs.busy(2), t -> t.drop(0, 2, epoch, 1), -1);
        }
    }

    private static void roundNotInRange() {
        for (int round : Check.OUTSIDE) {
            CHECK.changesNothing("drop(0, 2, 1, " + round + ")", () -> Runs.busy(2), t -> t.drop(0, 2, 1, round), -1);
        }
    }

    private static int drop(ProgressTracker x, int p) {
        return x.drop(0, Stamp.op(p), Stamp.epoch(p), Stamp.round(p));
    }

    /** Worker 0 of 2 holds just so many capabilities at p, where messages wait and worker 1 holds some too. */
    private static ProgressTracker holding(int left, int p) {
        ProgressTracker x = Runs.everywhere(2, 1);
        int held = Runs.held(x, 0, p);
        for (int i = left; i < held; i++) {
            Runs.dropAt(x, 0, p);
        }
        Runs.settle(x, 0);
        return x;
    }

    /** What a drop at p changes, with this held and this pending there. */
    private static String[] dropped(int p, int held, int pending) {
        return new String[] {"caps[0]" + Stamp.name(p) + " " + held + "->" + (held - 1),
            "pending[0]" + Stamp.name(p) + " " + pending + "->" + (pending - 1)};
    }

    /** "caps[w][p] == 0: answers NO_CAPABILITY" */
    private static void withoutCapability() {
        for (int i = 0; i < Stamp.COUNT; i++) {
            int p = i;
            CHECK.changesNothing("drop without a capability at " + Stamp.name(p), () -> holding(0, p),
                t -> drop(t, p), -2);
        }
    }

    /** "caps[w][p] decreases by 1", "pending[w][p] decreases by 1", "the answer is OK" */
    private static void lastCapability() {
        for (int i = Stamp.FIRST_OF_HEAD; i < Stamp.COUNT; i++) {
            int p = i;
            for (int held = 1; held <= Runs.HELD; held++) {
                int left = held;
                CHECK.step("drop of one of " + held + " at " + Stamp.name(p), () -> holding(left, p),
                    t -> drop(t, p), 0, dropped(p, held, 0));
            }
        }
    }

    private static void inputs() {
        for (int e = 0; e < 4; e++) {
            int epoch = e;
            CHECK.step("drop of the input at epoch " + e, () -> Runs.everywhere(2, epoch), t -> t.drop(0, 0, epoch, 0),
                0, dropped(Stamp.at(0, e, 0), 1, 0));
        }
    }

    private static void whatIsNoCapabilityOfTheWorker() {
        ProgressTracker x = new ProgressTracker(4);
        Runs.need(x.send(0, 0, 0, 0), 0);
        CHECK.call(x, "drop of a message", t -> t.drop(0, 1, 0, 0), -2);
        Runs.need(x.receive(1, 1, 0, 0), 0);
        CHECK.call(x, "drop of another worker's capability", t -> t.drop(0, 1, 0, 0), -2);
        CHECK.call(x, "drop of what another worker sent", t -> t.drop(1, 1, 0, 0), 0,
            "caps[1](1,0,0) 1->0", "pending[1](1,0,0) 0->-1");
        CHECK.call(x, "a second drop", t -> t.drop(1, 1, 0, 0), -2);
    }

    /** Worker 0 of 2 has n pending entries, and this value pending at p. */
    private static ProgressTracker buffer(int n, int p, int atP) {
        ProgressTracker x = Runs.everywhere(2, Stamp.epoch(p));
        Runs.bringPendingTo(x, 0, p, atP);
        Runs.fillPending(x, 0, n, p);
        return x;
    }

    /** "The pending entries of w, after adding -1 at p, would exceed 16: answers PENDING_FULL." */
    private static void seventeenthEntry() {
        for (int i = Stamp.FIRST_OF_HEAD; i < Stamp.COUNT; i++) {
            int p = i;
            CHECK.changesNothing("drop to a 17th entry at " + Stamp.name(p), () -> buffer(16, p, 0),
                t -> drop(t, p), -6);
        }
        CHECK.changesNothing("drop of the input to a 17th entry", () -> buffer(16, 63, 0), t -> t.drop(0, 0, 3, 0), -6);
    }

    private static void sixteenthEntry() {
        for (int i = Stamp.FIRST_OF_HEAD; i < Stamp.COUNT; i++) {
            int p = i;
            CHECK.step("drop to a 16th entry at " + Stamp.name(p), () -> buffer(15, p, 0),
                t -> drop(t, p), 0, dropped(p, 3, 0));
        }
        CHECK.step("drop of the input to a 16th entry", () -> buffer(15, 63, 0), t -> t.drop(0, 0, 3, 0), 0,
            dropped(Stamp.at(0, 3, 0), 1, 0));
    }

    private static void nonzeroAddsNoEntry() {
        int[] values = {2, 3, -1, -2};
        for (int i = Stamp.FIRST_OF_HEAD; i < Stamp.COUNT; i++) {
            int p = i;
            for (int value : values) {
                CHECK.step("drop at " + value + " at " + Stamp.name(p) + " of a full buffer",
                    () -> buffer(16, p, value), t -> drop(t, p), 0, dropped(p, 3 + Math.min(value, 0), value));
            }
            ProgressTracker x = buffer(16, p, 2);
            Runs.need(drop(x, p), 0);
            CHECK.due("entries after 2 became 1", Runs.entries(x, 0), 16);
            CHECK.call(x, "drop to a 17th entry after it", t -> t.drop(0, 3, 3, p == 63 ? 2 : 3), -6);
        }
    }

    private static void plusOneRemovesAnEntry() {
        for (int i = Stamp.FIRST_OF_HEAD; i < Stamp.COUNT; i++) {
            int p = i;
            CHECK.step("drop at +1 at " + Stamp.name(p) + " of a full buffer", () -> buffer(16, p, 1),
                t -> drop(t, p), 0, dropped(p, 3, 1));
            ProgressTracker x = buffer(16, p, 1);
            Runs.need(drop(x, p), 0);
            CHECK.due("entries after +1 became 0", Runs.entries(x, 0), 15);
            CHECK.call(x, "drop to the freed entry", t -> drop(t, p), 0, dropped(p, 2, 0));
            CHECK.call(x, "drop to a 17th entry after it", t -> t.drop(0, 3, 3, p == 63 ? 2 : 3), -6);
        }
    }

    private static void buffersOfOthersDoNotCount() {
        for (int w = 0; w < 4; w++) {
            int worker = w;
            CHECK.step("drop by " + w + " beside full buffers", () -> allFullBut(worker), t -> t.drop(worker, 3, 3, 3), 0,
                "caps[" + w + "](3,3,3) 3->2", "pending[" + w + "](3,3,3) 0->-1");
        }
    }

    private static ProgressTracker allFullBut(int worker) {
        ProgressTracker x = Runs.everywhere(4, 1);
        for (int w = 0; w < 4; w++) {
            Runs.fillPending(x, w, w == worker ? 15 : 16);
        }
        return x;
    }

    /** "Message counts, views, channels and other workers do not change." */
    private static void nothingElseChanges() {
        for (int w = 0; w < 4; w++) {
            int worker = w;
            CHECK.step("drop by " + w + " in a busy state", () -> Runs.busy(4), t -> t.drop(worker, 3, 3, 3), 0,
                "caps[" + w + "](3,3,3) 3->2", "pending[" + w + "](3,3,3) 0->-1");
        }
    }

    /** "Tests, in order" */
    private static void testsComeInOrder() {
        CHECK.changesNothing("bad worker before no capability", () -> new ProgressTracker(2),
            t -> t.drop(2, 1, 0, 0), -1);
        CHECK.changesNothing("bad operator before no capability", () -> new ProgressTracker(2),
            t -> t.drop(0, 4, 0, 0), -1);
        CHECK.changesNothing("bad epoch before no capability", () -> new ProgressTracker(2),
            t -> t.drop(0, 1, 4, 0), -1);
        CHECK.changesNothing("bad round before no capability", () -> new ProgressTracker(2),
            t -> t.drop(0, 1, 0, -1), -1);
        CHECK.changesNothing("bad worker before full pending", () -> buffer(16, 63, 0), t -> t.drop(2, 3, 3, 3), -1);
        CHECK.changesNothing("bad operator before full pending", () -> buffer(16, 63, 0), t -> t.drop(0, 4, 3, 3), -1);
        CHECK.changesNothing("bad epoch before full pending", () -> buffer(16, 63, 0), t -> t.drop(0, 3, 4, 3), -1);
        CHECK.changesNothing("bad round before full pending", () -> buffer(16, 63, 0), t -> t.drop(0, 3, 3, 4), -1);
        for (int i = 0; i < Stamp.COUNT; i++) {
            int p = i;
            CHECK.changesNothing("no capability before full pending at " + Stamp.name(p), () -> fullWithout(p),
                t -> drop(t, p), -2);
        }
    }

    /** Worker 0 holds nothing at p, and its buffer is full, with no entry at p. */
    private static ProgressTracker fullWithout(int p) {
        ProgressTracker x = holding(0, p);
        Runs.fillPending(x, 0, 16, p);
        return x;
    }
}
