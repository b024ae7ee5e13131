/** Promise 3. A comment in quotes is the sentence of the document that the test below it holds. */
public final class ReceiveTest {
    private static final Check CHECK = new Check();

    public static void main(String[] args) {
        workerNotInRange();
        operatorNotInRange();
        epochNotInRange();
        roundNotInRange();
        withoutMessage();
        lastMessageIsEnough();
        neverAtSource();
        anyWorkerMayTakeIt();
        pendingIsNotChanged();
        fullBufferDoesNotMatter();
        viewsAndChannelsDoNotChange();
        testsComeInOrder();
        CHECK.end();
    }

    /** "w is not in range [...]: answers BAD_ARG" */
    private static void workerNotInRange() {
        for (int workers = 1; workers <= 4; workers++) {
            int all = workers;
            for (int w : Check.outside(workers)) {
                CHECK.changesNothing("receive(" + w + ", 1, 1, 1) of " + all, () -> Runs.busy(all),
                    t -> t.receive(w, 1, 1, 1), -1);
            }
            CHECK.step("receive by the last of " + all, () -> Runs.busy(all), t -> t.receive(all - 1, 1, 0, 0), 0,
                "caps[" + (all - 1) + "](1,0,0) 3->4", "msgs(1,0,0) 2->1");
        }
    }

    /** "op, epoch or round is not in 0..3: answers BAD_ARG" */
    private static void operatorNotInRange() {
        for (int op : Check.OUTSIDE) {
            CHECK.changesNothing("receive(0, " + op + ", 1, 1)", () -> Runs.busy(2), t -> t.receive(0, op, 1, 1), -1);
        }
    }

    private static void epochNotInRange() {
        for (int epoch : Check.OUTSIDE) {
            CHECK.changesNothing("receive(0, 2, " + epoch + ", 1)", () -> Runs.busy(2),
                t -> t.receive(0, 2, epoch, 1), -1);
        }
    }

    private static void roundNotInRange() {
        for (int round : Check.OUTSIDE) {
            CHECK.changesNothing("receive(0, 2, 1, " + round + ")", () -> Runs.busy(2),
                t -> t.receive(0, 2, 1, round), -1);
        }
    }

    /** Just so many messages wait at p, two at every other pointstamp, and both workers hold capabilities at p. */
    private static ProgressTracker waiting(int left, int p) {
        ProgressTracker x = Runs.busy(2);
        int all = x.messages(Stamp.op(p), Stamp.epoch(p), Stamp.round(p));
        for (int i = left; i < all; i++) {
            Runs.need(receive(x, 1, p), 0);
        }
        return x;
    }

    private static int receive(ProgressTracker x, int w, int p) {
        return x.receive(w, Stamp.op(p), Stamp.epoch(p), Stamp.round(p));
    }

    /** "msgs[p] == 0: answers NO_MESSAGE" */
    private static void withoutMessage() {
        for (int i = Stamp.FIRST_OF_HEAD; i < Stamp.COUNT; i++) {
            int p = i;
            CHECK.changesNothing("receive without a message at " + Stamp.name(p), () -> waiting(0, p),
                t -> receive(t, 0, p), -3);
        }
    }

    /** "msgs[p] decreases by 1", "caps[w][p] increases by 1", "the answer is OK" */
    private static void lastMessageIsEnough() {
        for (int i = Stamp.FIRST_OF_HEAD; i < Stamp.COUNT; i++) {
            int p = i;
            int held = Runs.held(Runs.busy(2), 0, p);
            CHECK.step("receive of the last message at " + Stamp.name(p), () -> waiting(1, p), t -> receive(t, 0, p), 0,
                "caps[0]" + Stamp.name(p) + " " + held + "->" + (held + 1), "msgs" + Stamp.name(p) + " 1->0");
            CHECK.step("receive of one of two at " + Stamp.name(p), () -> waiting(2, p), t -> receive(t, 0, p), 0,
                "caps[0]" + Stamp.name(p) + " " + held + "->" + (held + 1), "msgs" + Stamp.name(p) + " 2->1");
        }
    }

    /** No edge leads to SOURCE: where a capability is, a message isn't. */
    private static void neverAtSource() {
        for (int i = 0; i < Stamp.FIRST_OF_HEAD; i++) {
            int p = i;
            CHECK.changesNothing("receive at " + Stamp.name(p), () -> Runs.busy(2), t -> receive(t, 0, p), -3);
        }
    }

    private static void anyWorkerMayTakeIt() {
        ProgressTracker x = new ProgressTracker(4);
        Runs.need(x.send(0, 0, 0, 0), 0);
        CHECK.call(x, "receive by another worker", t -> t.receive(3, 1, 0, 0), 0,
            "caps[3](1,0,0) 0->1", "msgs(1,0,0) 1->0");
        Runs.need(x.send(3, 1, 0, 0), 0);
        Runs.need(x.broadcast(3), 1);
        CHECK.call(x, "receive of what waits in channels", t -> t.receive(1, 2, 0, 0), 0,
            "caps[1](2,0,0) 0->1", "msgs(2,0,0) 1->0");
    }

    /** "Pending is not changed, because the -1 and +1 at p cancel." */
    private static void pendingIsNotChanged() {
        int[] values = {-2, -1, 0, 1, 2};
        for (int i = Stamp.FIRST_OF_HEAD; i < Stamp.COUNT; i++) {
            int p = i;
            for (int value : values) {
                int held = Runs.HELD + Math.min(value, 0);
                int messages = Runs.WAITING + Math.max(value, 0);
                CHECK.step("receive with " + value + " pending at " + Stamp.name(p), () -> pending(p, value),
                    t -> receive(t, 0, p), 0,
                    "caps[0]" + Stamp.name(p) + " " + held + "->" + (held + 1),
                    "msgs" + Stamp.name(p) + " " + messages + "->" + (messages - 1));
            }
        }
    }

    private static ProgressTracker pending(int p, int value) {
        ProgressTracker x = Runs.everywhere(2, Stamp.epoch(p));
        Runs.bringPendingTo(x, 0, p, value);
        return x;
    }

    private static void fullBufferDoesNotMatter() {
        for (int i = Stamp.FIRST_OF_HEAD; i < Stamp.COUNT; i++) {
            int p = i;
            CHECK.step("receive at " + Stamp.name(p) + " with 16 other entries", () -> fullBeside(p),
                t -> receive(t, 0, p), 0,
                "caps[0]" + Stamp.name(p) + " 3->4", "msgs" + Stamp.name(p) + " 2->1");
        }
    }

    private static ProgressTracker fullBeside(int p) {
        ProgressTracker x = Runs.everywhere(2, 1);
        Runs.fillPending(x, 0, 16, p);
        return x;
    }

    /** "Views and channels do not change." */
    private static void viewsAndChannelsDoNotChange() {
        for (int w = 0; w < 4; w++) {
            int worker = w;
            CHECK.step("receive by " + w + " in a busy state", () -> Runs.busy(4), t -> t.receive(worker, 3, 3, 3), 0,
                "caps[" + w + "](3,3,3) 3->4", "msgs(3,3,3) 2->1");
        }
    }

    /** "Tests, in order" */
    private static void testsComeInOrder() {
        CHECK.changesNothing("bad worker before no message", () -> new ProgressTracker(2),
            t -> t.receive(2, 1, 0, 0), -1);
        CHECK.changesNothing("bad operator before no message", () -> new ProgressTracker(2),
            t -> t.receive(0, 4, 0, 0), -1);
        CHECK.changesNothing("bad epoch before no message", () -> new ProgressTracker(2),
            t -> t.receive(0, 1, 4, 0), -1);
        CHECK.changesNothing("bad round before no message", () -> new ProgressTracker(2),
            t -> t.receive(0, 1, 0, -1), -1);
    }
}
