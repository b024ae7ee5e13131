/** Promise 2. A comment in quotes is the sentence of the document that the test below it holds. */
public final class SendTest {
    private static final Check CHECK = new Check();
    private static final int[] FROM = {0, 1, 2, 2};
    private static final int[] TO = {1, 2, 1, 3};

    public static void main(String[] args) {
        workerNotInRange();
        edgeNotInRange();
        epochNotInRange();
        roundNotInRange();
        withoutCapability();
        lastCapabilityIsEnough();
        whatIsNoCapabilityOfTheWorker();
        roundLimit();
        roundLimitOnlyOnTheFeedbackEdge();
        seventeenthEntry();
        sixteenthEntry();
        nonzeroAddsNoEntry();
        minusOneRemovesAnEntry();
        buffersOfOthersDoNotCount();
        capabilityIsKept();
        nothingElseChanges();
        testsComeInOrder();
        CHECK.end();
    }

    /** "w is not in range [...]: answers BAD_ARG" */
    private static void workerNotInRange() {
        for (int workers = 1; workers <= 4; workers++) {
            int all = workers;
            for (int w : Check.outside(workers)) {
                CHECK.changesNothing("send(" + w + ", 3, 1, 1) of " + all, () -> Runs.busy(all),
                    t -> t.send(w, 3, 1, 1), -1);
            }
            CHECK.step("send by the last of " + all, () -> Runs.everywhere(all, 1), t -> t.send(all - 1, 3, 1, 1), 0,
                "msgs(3,1,1) 2->3", "pending[" + (all - 1) + "](3,1,1) 0->1");
        }
    }

    /** "edge is not in 0..3 [...]: answers BAD_ARG" */
    private static void edgeNotInRange() {
        for (int edge : Check.OUTSIDE) {
            CHECK.changesNothing("send(0, " + edge + ", 1, 0)", () -> Runs.busy(2), t -> t.send(0, edge, 1, 0), -1);
        }
    }

    /** "epoch is not in 0..3 [...]: answers BAD_ARG" */
    private static void epochNotInRange() {
        for (int epoch : Check.OUTSIDE) {
            CHECK.changesNothing("send(0, 1, " + epoch + ", 1)", () -> Runs.busy(2), t -> t.send(0, 1, epoch, 1), -1);
        }
    }

    /** "round is not in 0..3: answers BAD_ARG" */
    private static void roundNotInRange() {
        for (int round : Check.OUTSIDE) {
            for (int edge = 0; edge < 4; edge++) {
                int over = edge;
                CHECK.changesNothing("send(0, " + edge + ", 1, " + round + ")", () -> Runs.busy(2),
                    t -> t.send(0, over, 1, round), -1);
            }
        }
    }

    /** Worker 0 of 2 holds just so many capabilities at this pointstamp, worker 1 and messages are there too. */
    private static ProgressTracker holding(int left, int op, int epoch, int round) {
        ProgressTracker x = Runs.everywhere(2, op == ProgressTracker.SOURCE ? epoch : 1);
        int held = x.capabilities(0, op, epoch, round);
        for (int i = left; i < held; i++) {
            Runs.need(x.drop(0, op, epoch, round), 0);
        }
        Runs.settle(x, 0);
        return x;
    }

    private static String text(int edge, int epoch, int round) {
        return "send(0, " + edge + ", " + epoch + ", " + round + ")";
    }

    /** "caps[w][(f,epoch,round)] == 0: answers NO_CAPABILITY" */
    private static void withoutCapability() {
        for (int i = 0; i < 64; i++) {
            int edge = i / 16;
            int epoch = i / 4 % 4;
            int round = i % 4;
            CHECK.changesNothing(text(edge, epoch, round) + " without a capability",
                () -> holding(0, FROM[edge], epoch, round), t -> t.send(0, edge, epoch, round), -2);
        }
    }

    /** "Otherwise" */
    private static void lastCapabilityIsEnough() {
        for (int i = 0; i < 64; i++) {
            int edge = i / 16;
            int epoch = i / 4 % 4;
            int round = i % 4;
            boolean impossible = edge == 0 && round > 0 || edge == 2 && round == 3;
            if (!impossible) {
                String at = Stamp.name(Stamp.at(TO[edge], epoch, edge == 2 ? round + 1 : round));
                CHECK.step(text(edge, epoch, round) + " with one capability",
                    () -> holding(1, FROM[edge], epoch, round), t -> t.send(0, edge, epoch, round), 0,
                    "msgs" + at + " 2->3", "pending[0]" + at + " 0->1");
            }
        }
    }

    private static void whatIsNoCapabilityOfTheWorker() {
        ProgressTracker x = new ProgressTracker(2);
        Runs.need(x.send(0, 0, 0, 0), 0);
        CHECK.call(x, "send from a message that nobody took", t -> t.send(0, 1, 0, 0), -2);
        Runs.need(x.receive(1, 1, 0, 0), 0);
        CHECK.call(x, "send from what another worker holds", t -> t.send(0, 1, 0, 0), -2);
        CHECK.call(x, "send from what the worker holds", t -> t.send(1, 1, 0, 0), 0,
            "msgs(2,0,0) 0->1", "pending[1](2,0,0) 0->1");
        Runs.need(x.drop(1, 1, 0, 0), 0);
        CHECK.call(x, "send from what the worker dropped", t -> t.send(1, 1, 0, 0), -2);
    }

    /** "r2 > 3: answers ROUND_LIMIT." */
    private static void roundLimit() {
        for (int e = 0; e < 4; e++) {
            int epoch = e;
            CHECK.changesNothing(text(2, e, 3), () -> Runs.busy(2), t -> t.send(0, 2, epoch, 3), -4);
            CHECK.changesNothing(text(2, e, 3) + " with one capability",
                () -> holding(1, ProgressTracker.BODY, epoch, 3), t -> t.send(0, 2, epoch, 3), -4);
        }
    }

    /** "This can happen only on edge 2 with round 3." */
    private static void roundLimitOnlyOnTheFeedbackEdge() {
        for (int e = 0; e < 4; e++) {
            int epoch = e;
            CHECK.step(text(1, e, 3), () -> Runs.everywhere(2, 1), t -> t.send(0, 1, epoch, 3), 0,
                "msgs(2," + e + ",3) 2->3", "pending[0](2," + e + ",3) 0->1");
            CHECK.step(text(3, e, 3), () -> Runs.everywhere(2, 1), t -> t.send(0, 3, epoch, 3), 0,
                "msgs(3," + e + ",3) 2->3", "pending[0](3," + e + ",3) 0->1");
            CHECK.step(text(2, e, 2), () -> Runs.everywhere(2, 1), t -> t.send(0, 2, epoch, 2), 0,
                "msgs(1," + e + ",3) 2->3", "pending[0](1," + e + ",3) 0->1");
            CHECK.changesNothing(text(0, e, 3), () -> Runs.everywhere(2, epoch), t -> t.send(0, 0, epoch, 3), -2);
        }
    }

    /** Worker 0 of 2 has n pending entries, and this value pending at p. */
    private static ProgressTracker buffer(int n, int p, int atP) {
        ProgressTracker x = Runs.everywhere(2, Stamp.epoch(p));
        Runs.bringPendingTo(x, 0, p, atP);
        Runs.fillPending(x, 0, n, p);
        return x;
    }

    private static int sendTo(ProgressTracker x, int p) {
        return x.send(0, Runs.edgeTo(p), Stamp.epoch(p), Runs.roundBefore(p));
    }

    /** What a send to p changes when its buffer had this value there. */
    private static String[] sent(int p, int messages, int pending) {
        return new String[] {"msgs" + Stamp.name(p) + " " + messages + "->" + (messages + 1),
            "pending[0]" + Stamp.name(p) + " " + pending + "->" + (pending + 1)};
    }

    /** "The pending entries of w, after adding +1 at (t,epoch,r2), would exceed 16: answers PENDING_FULL." */
    private static void seventeenthEntry() {
        for (int i = Stamp.FIRST_OF_HEAD; i < Stamp.COUNT; i++) {
            int p = i;
            CHECK.changesNothing("send to a 17th entry at " + Stamp.name(p), () -> buffer(16, p, 0),
                t -> sendTo(t, p), -6);
        }
    }

    private static void sixteenthEntry() {
        for (int i = Stamp.FIRST_OF_HEAD; i < Stamp.COUNT; i++) {
            int p = i;
            CHECK.step("send to a 16th entry at " + Stamp.name(p), () -> buffer(15, p, 0),
                t -> sendTo(t, p), 0, sent(p, 2, 0));
        }
    }

    /** "Adding +1 where pending is already nonzero does not add an entry." */
    private static void nonzeroAddsNoEntry() {
        int[] values = {1, 2, 5, -2, -3};
        for (int i = Stamp.FIRST_OF_HEAD; i < Stamp.COUNT; i++) {
            int p = i;
            for (int value : values) {
                CHECK.step("send to " + value + " at " + Stamp.name(p) + " of a full buffer",
                    () -> buffer(16, p, value), t -> sendTo(t, p), 0, sent(p, 2 + Math.max(value, 0), value));
            }
            ProgressTracker x = buffer(16, p, -2);
            Runs.need(sendTo(x, p), 0);
            CHECK.due("entries after -2 became -1", Runs.entries(x, 0), 16);
            CHECK.call(x, "send to a 17th entry after it", t -> t.send(0, 3, 3, p == 63 ? 2 : 3), -6);
        }
    }

    /** "Adding +1 where pending is -1 removes one." */
    private static void minusOneRemovesAnEntry() {
        for (int i = Stamp.FIRST_OF_HEAD; i < Stamp.COUNT; i++) {
            int p = i;
            CHECK.step("send to -1 at " + Stamp.name(p) + " of a full buffer", () -> buffer(16, p, -1),
                t -> sendTo(t, p), 0, sent(p, 2, -1));
            ProgressTracker x = buffer(16, p, -1);
            Runs.need(sendTo(x, p), 0);
            CHECK.due("entries after -1 became 0", Runs.entries(x, 0), 15);
            CHECK.call(x, "send to the freed entry", t -> sendTo(t, p), 0, sent(p, 3, 0));
            CHECK.call(x, "send to a 17th entry after it", t -> t.send(0, 3, 3, p == 63 ? 2 : 3), -6);
        }
    }

    private static void buffersOfOthersDoNotCount() {
        for (int w = 0; w < 4; w++) {
            int sender = w;
            CHECK.step("send by " + w + " beside full buffers", () -> allFullBut(sender),
                t -> t.send(sender, 3, 3, 3), 0, "msgs(3,3,3) 2->3", "pending[" + w + "](3,3,3) 0->1");
        }
    }

    private static ProgressTracker allFullBut(int sender) {
        ProgressTracker x = Runs.everywhere(4, 1);
        for (int w = 0; w < 4; w++) {
            Runs.fillPending(x, w, w == sender ? 15 : 16);
        }
        return x;
    }

    /** "the capability at (f,epoch,round) is kept" */
    private static void capabilityIsKept() {
        ProgressTracker x = new ProgressTracker(3);
        CHECK.call(x, "send(1, 0, 0, 0)", t -> t.send(1, 0, 0, 0), 0,
            "msgs(1,0,0) 0->1", "pending[1](1,0,0) 0->1");
        CHECK.call(x, "a second send(1, 0, 0, 0)", t -> t.send(1, 0, 0, 0), 0,
            "msgs(1,0,0) 1->2", "pending[1](1,0,0) 1->2");
        CHECK.call(x, "the same of another worker", t -> t.send(2, 0, 0, 0), 0,
            "msgs(1,0,0) 2->3", "pending[2](1,0,0) 0->1");
    }

    /** "Nothing else changes: no capability count, no view, no channel, and no other worker's pending." */
    private static void nothingElseChanges() {
        for (int w = 0; w < 4; w++) {
            int sender = w;
            String buffer = "pending[" + w + "]";
            CHECK.step("send(" + w + ", 1, 2, 3) in a busy state", () -> Runs.busy(4), t -> t.send(sender, 1, 2, 3), 0,
                "msgs(2,2,3) 2->3", buffer + "(2,2,3) 0->1");
            CHECK.step("send(" + w + ", 2, 3, 0) in a busy state", () -> Runs.busy(4), t -> t.send(sender, 2, 3, 0), 0,
                "msgs(1,3,1) 2->3", buffer + "(1,3,1) 0->1");
        }
    }

    /** "Tests, in this order; the first that applies decides the answer" */
    private static void testsComeInOrder() {
        badArgumentFirst();
        for (int e = 0; e < 4; e++) {
            int epoch = e;
            int f = Stamp.at(ProgressTracker.BODY, e, 3);
            CHECK.changesNothing("no capability before round limit, epoch " + e,
                () -> holding(0, ProgressTracker.BODY, epoch, 3), t -> t.send(0, 2, epoch, 3), -2);
            CHECK.changesNothing("no capability before full pending, epoch " + e,
                () -> fullWithout(f, Stamp.at(3, epoch, 3)), t -> t.send(0, 3, epoch, 3), -2);
            CHECK.changesNothing("no capability before round limit and full pending, epoch " + e,
                () -> fullWithout(f, f), t -> t.send(0, 2, epoch, 3), -2);
            // HEAD in round 4 has no pointstamp, and an index made of it would be that of round 0 an epoch later.
            int mistaken = Stamp.at(ProgressTracker.HEAD, e, 4);
            CHECK.changesNothing("round limit before full pending, epoch " + e,
                () -> buffer(16, mistaken % Stamp.COUNT, 0), t -> t.send(0, 2, epoch, 3), -4);
            CHECK.changesNothing("round limit with a full buffer that has an entry after it, epoch " + e,
                () -> buffer(16, mistaken % Stamp.COUNT, -1), t -> t.send(0, 2, epoch, 3), -4);
        }
    }

    private static void badArgumentFirst() {
        CHECK.changesNothing("bad worker before no capability", () -> new ProgressTracker(2),
            t -> t.send(2, 1, 0, 0), -1);
        CHECK.changesNothing("bad edge before no capability", () -> new ProgressTracker(2),
            t -> t.send(0, 4, 3, 3), -1);
        CHECK.changesNothing("bad epoch before no capability", () -> new ProgressTracker(2),
            t -> t.send(0, 1, -1, 0), -1);
        CHECK.changesNothing("bad round before no capability", () -> new ProgressTracker(2),
            t -> t.send(0, 1, 0, -1), -1);
        CHECK.changesNothing("bad worker before round limit", () -> Runs.busy(2), t -> t.send(-1, 2, 0, 3), -1);
        CHECK.changesNothing("worker 4 of 4 before round limit", () -> Runs.busy(4), t -> t.send(4, 2, 0, 3), -1);
        CHECK.changesNothing("bad epoch before round limit", () -> Runs.busy(2), t -> t.send(0, 2, 4, 3), -1);
        CHECK.changesNothing("round 4 on the feedback edge", () -> Runs.busy(2), t -> t.send(0, 2, 0, 4), -1);
        CHECK.changesNothing("greatest round on the feedback edge", () -> Runs.busy(2),
            t -> t.send(0, 2, 0, Integer.MAX_VALUE), -1);
        CHECK.changesNothing("bad worker before full pending", () -> buffer(16, 63, 0), t -> t.send(2, 3, 3, 3), -1);
        CHECK.changesNothing("bad edge before full pending", () -> buffer(16, 63, 0), t -> t.send(0, 4, 3, 3), -1);
        CHECK.changesNothing("bad epoch before full pending", () -> buffer(16, 63, 0), t -> t.send(0, 3, 4, 3), -1);
        CHECK.changesNothing("bad round before full pending", () -> buffer(16, 63, 0), t -> t.send(0, 3, 3, 4), -1);
    }

    /** Worker 0 holds nothing at f, and its buffer is full, with no entry at f or p. */
    private static ProgressTracker fullWithout(int f, int p) {
        ProgressTracker x = holding(0, Stamp.op(f), Stamp.epoch(f), Stamp.round(f));
        Runs.fillPending(x, 0, 16, f, p);
        return x;
    }
}
