/** Promise 10. */
public final class FrontierTest {
    private static final Check CHECK = new Check();

    public static void main(String[] args) {
        fromEverySinglePointstamp();
        greatestFrontier();
        otherElementsHideBehindLower();
        looksAtTheViewAlone();
        countsBelowOneDoNotCount();
        badArguments();
        CHECK.end();
    }

    /** All elements are asked for, and the numbers on both sides of them. */
    private static void frontierIs(ProgressTracker x, int w, int op, int... elements) {
        String at = " of operator " + op + " at worker " + w;
        CHECK.due("frontierSize" + at, x.frontierSize(w, op), elements.length);
        for (int i = 0; i < elements.length; i++) {
            CHECK.due("frontierElement " + i + at, x.frontierElement(w, op, i), elements[i]);
        }
        int[] outside = {-1, -2, Integer.MIN_VALUE, elements.length, elements.length + 1, 4, Integer.MAX_VALUE};
        for (int index : outside) {
            CHECK.due("frontierElement " + index + at, x.frontierElement(w, op, index), -1);
        }
    }

    private static void fromEverySinglePointstamp() {
        for (int p = 0; p < 64; p++) {
            int from = p / 16;
            int epoch = p / 4 % 4;
            int round = p % 4;
            if (from == ProgressTracker.SOURCE && round > 0) {
                continue;
            }
            ProgressTracker x = new ProgressTracker(1);
            Runs.holdAlone(x, 0, from, epoch, round);
            Runs.settle(x, 0);
            for (int op = 0; op < 4; op++) {
                if (Graph.K[from][op] == Graph.NONE) {
                    frontierIs(x, 0, op);
                } else {
                    frontierIs(x, 0, op, epoch * 16 + round + Graph.K[from][op]);
                }
            }
        }
    }

    private static void greatestFrontier() {
        ProgressTracker x = staircase(ProgressTracker.BODY);
        frontierIs(x, 0, ProgressTracker.SOURCE);
        frontierIs(x, 0, ProgressTracker.HEAD, 4, 16 + 3, 32 + 2, 48 + 1);
        frontierIs(x, 0, ProgressTracker.BODY, 3, 16 + 2, 32 + 1, 48);
        frontierIs(x, 0, ProgressTracker.SINK, 3, 16 + 2, 32 + 1, 48);
        x = staircase(ProgressTracker.SINK);
        frontierIs(x, 0, ProgressTracker.BODY);
        frontierIs(x, 0, ProgressTracker.SINK, 3, 16 + 2, 32 + 1, 48);
    }

    /** One worker that holds nothing but op at (0,3), (1,2), (2,1) and (3,0), as all have heard. */
    private static ProgressTracker staircase(int op) {
        return steps(op, 3, 2, 1, 0);
    }

    /** Worker e holds op at round rounds[e] of epoch e, and nothing else; below 0 it holds nothing at all. */
    private static ProgressTracker steps(int op, int... rounds) {
        ProgressTracker x = new ProgressTracker(rounds.length);
        for (int e = 0; e < rounds.length; e++) {
            Runs.holdAlone(x, e, rounds[e] < 0 ? 0 : op, rounds[e] < 0 ? 0 : e, rounds[e] < 0 ? 0 : rounds[e]);
            if (rounds[e] < 0) {
                Runs.need(x.drop(e, 0, 0, 0), 0);
            }
            Runs.settle(x, e);
        }
        return x;
    }

    private static void otherElementsHideBehindLower() {
        frontierIs(steps(1, 1, 1), 1, 1, 1);
        frontierIs(steps(1, 1, 2), 1, 1, 1);
        frontierIs(steps(1, 1, 0), 1, 1, 1, 16);
        frontierIs(steps(1, 2, 3, 1), 2, 1, 2, 32 + 1);
        frontierIs(steps(1, 3, 1, 2), 0, 1, 3, 16 + 1);
        frontierIs(steps(1, 3, 1, 2, 0), 0, 1, 3, 16 + 1, 48);
        frontierIs(steps(3, -1, 3, 3, 2), 0, 3, 16 + 3, 48 + 2);
        frontierIs(steps(2, -1, -1, -1, 3), 0, 1, 48 + 4);
        frontierIs(steps(2, -1, -1, -1, -1), 0, 3);
        lowestRoundOfAnEpoch();
        lowerFromAnotherOperator();
    }

    private static void lowestRoundOfAnEpoch() {
        ProgressTracker x = new ProgressTracker(1);
        Runs.hold(x, 0, ProgressTracker.BODY, 0, 3);
        Runs.settle(x, 0);
        Runs.need(x.drop(0, 0, 0, 0), 0);
        for (int r = 0; r < 4; r++) {
            Runs.need(x.drop(0, 1, 0, r), 0);
        }
        Runs.settle(x, 0);
        for (int r = 0; r < 4; r++) {
            frontierIs(x, 0, ProgressTracker.HEAD, r + 1);
            frontierIs(x, 0, ProgressTracker.BODY, r);
            Runs.need(x.drop(0, 2, 0, r), 0);
            Runs.settle(x, 0);
        }
        frontierIs(x, 0, ProgressTracker.HEAD);
    }

    private static void lowerFromAnotherOperator() {
        ProgressTracker x = new ProgressTracker(2);
        Runs.holdAlone(x, 0, ProgressTracker.BODY, 0, 1);
        Runs.settle(x, 0);
        Runs.holdAlone(x, 1, ProgressTracker.HEAD, 0, 2);
        Runs.settle(x, 1);
        frontierIs(x, 0, ProgressTracker.HEAD, 2);
        frontierIs(x, 0, ProgressTracker.BODY, 1);
        Runs.need(x.drop(0, 2, 0, 1), 0);
        Runs.settle(x, 0);
        frontierIs(x, 0, ProgressTracker.BODY, 2);
        frontierIs(x, 0, ProgressTracker.SINK, 2);
    }

    private static void looksAtTheViewAlone() {
        ProgressTracker x = new ProgressTracker(2);
        Runs.need(x.advanceInput(0, 0), 0);
        Runs.need(x.advanceInput(1, 0), 0);
        frontierIs(x, 0, ProgressTracker.HEAD, 0);
        Runs.need(x.broadcast(0), 2);
        Runs.need(x.broadcast(1), 2);
        frontierIs(x, 0, ProgressTracker.HEAD, 0);
        Runs.need(x.deliver(0, 0), 2);
        Runs.need(x.deliver(1, 0), 2);
        frontierIs(x, 0, ProgressTracker.HEAD, 16);
        frontierIs(x, 1, ProgressTracker.HEAD, 0);
    }

    private static void countsBelowOneDoNotCount() {
        ProgressTracker x = new ProgressTracker(2);
        Runs.need(x.send(0, 0, 0, 0), 0);
        Runs.need(x.advanceInput(0, 0), 0);
        Runs.need(x.receive(1, 1, 0, 0), 0);
        Runs.need(x.drop(1, 1, 0, 0), 0);
        Runs.need(x.drop(1, 0, 0, 0), 0);
        Runs.need(x.broadcast(1), 2);
        Runs.need(x.deliver(1, 1), 2);
        frontierIs(x, 1, ProgressTracker.SINK, 0);
        Runs.need(x.broadcast(0), 3);
        Runs.need(x.deliver(0, 1), 3);
        frontierIs(x, 1, ProgressTracker.SINK, 16);
        headIsNegative();
    }

    private static void headIsNegative() {
        ProgressTracker x = new ProgressTracker(2);
        Runs.need(x.advanceInput(0, 0), 0);
        Runs.need(x.broadcast(0), 2);
        Runs.need(x.send(0, 0, 1, 0), 0);
        Runs.need(x.receive(1, 1, 1, 0), 0);
        Runs.need(x.drop(1, 1, 1, 0), 0);
        Runs.need(x.drop(1, 0, 0, 0), 0);
        Runs.need(x.drop(0, 0, 1, 0), 0);
        Runs.need(x.broadcast(1), 2);
        Runs.need(x.deliver(1, 1), 2);
        Runs.need(x.deliver(0, 1), 2);
        CHECK.due("view at HEAD", x.viewCount(1, 1, 1, 0), -1);
        frontierIs(x, 1, ProgressTracker.HEAD, 16);
        Runs.need(x.broadcast(0), 2);
        Runs.need(x.deliver(0, 1), 2);
        frontierIs(x, 1, ProgressTracker.HEAD);
    }

    private static void badArguments() {
        ProgressTracker x = new ProgressTracker(4);
        for (int bad : Check.OUTSIDE) {
            CHECK.call(x, "frontierSize(" + bad + ", 0)", t -> t.frontierSize(bad, 0), 0);
            CHECK.call(x, "frontierSize(0, " + bad + ")", t -> t.frontierSize(0, bad), 0);
            CHECK.call(x, "frontierElement(" + bad + ", 0, 0)", t -> t.frontierElement(bad, 0, 0), -1);
            CHECK.call(x, "frontierElement(0, " + bad + ", 0)", t -> t.frontierElement(0, bad, 0), -1);
            CHECK.call(x, "frontierElement(0, 0, " + bad + ")", t -> t.frontierElement(0, 0, bad), -1);
        }
        CHECK.call(x, "frontierSize(3, 3)", t -> t.frontierSize(3, 3), 1);
        CHECK.call(x, "frontierElement(3, 3, 0)", t -> t.frontierElement(3, 3, 0), 0);
        frontierIs(new ProgressTracker(2), 1, 0, 0);
        frontierIs(new ProgressTracker(2), 2, 0);
    }
}
