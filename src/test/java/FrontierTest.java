import java.util.SortedSet;
import java.util.TreeSet;

/** Promise 10. A comment in quotes is the sentence of the document that the test below it holds. */
public final class FrontierTest {
    private static final Check CHECK = new Check();

    public static void main(String[] args) {
        sizeOutOfRange();
        elementOutOfRange();
        indexOutOfRange();
        lastWorkerAndOperator();
        fromEverySinglePointstamp();
        everyStaircase();
        sizeFromNoneToFour();
        roundMayBeFour();
        equalPairsAreOneElement();
        equalRoundKeepsTheEarlierEpoch();
        equalEpochKeepsTheLowerRound();
        lowerFromAnotherOperator();
        looksAtTheViewAlone();
        zeroDoesNotCount();
        negativeDoesNotCount();
        changesNothing();
        CHECK.end();
    }

    /** "It answers 0 if w is not in range or op is not in 0..3." */
    private static void sizeOutOfRange() {
        for (int workers = 1; workers <= 4; workers++) {
            int all = workers;
            for (int w : Check.outside(workers)) {
                CHECK.changesNothing("frontierSize(" + w + ", 3) of " + all, () -> Runs.busy(all),
                    t -> t.frontierSize(w, 3), 0);
            }
        }
        for (int op : Check.OUTSIDE) {
            CHECK.changesNothing("frontierSize(0, " + op + ")", () -> Runs.busy(2), t -> t.frontierSize(0, op), 0);
        }
    }

    /** "It answers -1 if any of these holds:" "w is not in range;" "op is not in 0..3;" */
    private static void elementOutOfRange() {
        for (int workers = 1; workers <= 4; workers++) {
            int all = workers;
            for (int w : Check.outside(workers)) {
                CHECK.changesNothing("frontierElement(" + w + ", 3, 0) of " + all, () -> Runs.busy(all),
                    t -> t.frontierElement(w, 3, 0), -1);
            }
        }
        for (int op : Check.OUTSIDE) {
            CHECK.changesNothing("frontierElement(0, " + op + ", 0)", () -> Runs.busy(2),
                t -> t.frontierElement(0, op, 0), -1);
        }
        for (int bad : Check.OUTSIDE) {
            CHECK.changesNothing("frontierElement of nothing but " + bad, () -> Runs.busy(2),
                t -> t.frontierElement(bad, bad, bad), -1);
        }
    }

    /** "index < 0", "index >= frontierSize(w,op)" */
    private static void indexOutOfRange() {
        for (int size = 0; size <= 4; size++) {
            int elements = size;
            for (int index : Check.outside(size)) {
                CHECK.changesNothing("frontierElement(0, 2, " + index + ") of " + size, () -> stairs(elements),
                    t -> t.frontierElement(0, 2, index), -1);
            }
            for (int index = 0; index < size; index++) {
                CHECK.due("frontierElement(0, 2, " + index + ") of " + size,
                    stairs(size).frontierElement(0, 2, index) >= 0, true);
            }
        }
    }

    private static void lastWorkerAndOperator() {
        for (int workers = 1; workers <= 4; workers++) {
            ProgressTracker x = new ProgressTracker(workers);
            for (int w = 0; w < workers; w++) {
                for (int op = 0; op < 4; op++) {
                    frontierIs(x, w, op, 0);
                }
            }
            frontierIs(x, workers, 0);
            frontierIs(x, workers - 1, 4);
        }
    }

    /** All elements are asked for, and the numbers on both sides of them. */
    private static void frontierIs(ProgressTracker x, int w, int op, int... elements) {
        String at = " of operator " + op + " at worker " + w;
        CHECK.due("frontierSize" + at, x.frontierSize(w, op), elements.length);
        for (int i = 0; i < elements.length; i++) {
            CHECK.due("frontierElement " + i + at, x.frontierElement(w, op, i), elements[i]);
        }
        int[] outside = {-1, -2, Integer.MIN_VALUE, elements.length, elements.length + 1, 4, 5, Integer.MAX_VALUE};
        for (int index : outside) {
            CHECK.due("frontierElement " + index + at, x.frontierElement(w, op, index), -1);
        }
    }

    /** "M [is] the set of distinct pairs (e, r+K[a][b])", "encoded as epoch*16+round" */
    private static void fromEverySinglePointstamp() {
        for (int p = 0; p < Stamp.COUNT; p++) {
            int from = Stamp.op(p);
            if (!Stamp.canHaveACount(p)) {
                continue;
            }
            ProgressTracker x = Runs.alone(p);
            for (int op = 0; op < 4; op++) {
                if (Graph.K[from][op] == Graph.NONE) {
                    frontierIs(x, 0, op);
                } else {
                    frontierIs(x, 0, op, Stamp.epoch(p) * 16 + Stamp.round(p) + Graph.K[from][op]);
                }
            }
        }
    }

    /** Worker e holds op at round rounds[e] of epoch e, and nothing else; below 0 it holds nothing at all. */
    private static ProgressTracker steps(int op, int... rounds) {
        ProgressTracker x = new ProgressTracker(rounds.length);
        for (int e = 0; e < rounds.length; e++) {
            Runs.holdAlone(x, e, rounds[e] < 0 ? 0 : op, rounds[e] < 0 ? 0 : e, rounds[e] < 0 ? 0 : rounds[e]);
            if (rounds[e] < 0) {
                Runs.need(x.drop(e, 0, 0, 0), 0);
            }
            Runs.settle(x, e);
        }
        return x;
    }

    /** BODY has a frontier of just so many elements. */
    private static ProgressTracker stairs(int size) {
        int[] rounds = {3, 2, 1, 0};
        for (int e = size; e < 4; e++) {
            rounds[e] = -1;
        }
        return steps(ProgressTracker.BODY, rounds);
    }

    /**
     * "The frontier is the set of elements of M that no other element of M is <= (product order)", "Its elements have
     * distinct epochs. They are numbered 0, 1, ... in increasing epoch."
     */
    private static void everyStaircase() {
        for (int i = 0; i < 625; i++) {
            int[] rounds = {i / 125 - 1, i / 25 % 5 - 1, i / 5 % 5 - 1, i % 5 - 1};
            for (int op = 1; op < 4; op++) {
                ProgressTracker x = steps(op, rounds);
                for (int at = 0; at < 4; at++) {
                    frontierIs(x, 3, at, leastOf(op, at, rounds));
                }
            }
        }
    }

    private static int[] leastOf(int op, int at, int[] rounds) {
        SortedSet<Integer> least = new TreeSet<>();
        for (int e = 0; e < 4; e++) {
            boolean hidden = rounds[e] < 0 || Graph.K[op][at] == Graph.NONE;
            for (int before = 0; before < e; before++) {
                hidden = hidden || 0 <= rounds[before] && rounds[before] <= rounds[e];
            }
            if (!hidden) {
                least.add(e * 16 + rounds[e] + Graph.K[op][at]);
            }
        }
        return least.stream().mapToInt(element -> element).toArray();
    }

    /** "a value in 0..4" */
    private static void sizeFromNoneToFour() {
        for (int size = 0; size <= 4; size++) {
            ProgressTracker x = stairs(size);
            for (int w = 0; w < 4; w++) {
                CHECK.due("frontierSize of SOURCE after " + size, x.frontierSize(w, ProgressTracker.SOURCE), 0);
                CHECK.due("frontierSize of HEAD after " + size, x.frontierSize(w, ProgressTracker.HEAD), size);
                CHECK.due("frontierSize of BODY after " + size, x.frontierSize(w, ProgressTracker.BODY), size);
                CHECK.due("frontierSize of SINK after " + size, x.frontierSize(w, ProgressTracker.SINK), size);
            }
        }
    }

    /** "The round may be 4." */
    private static void roundMayBeFour() {
        for (int e = 0; e < 4; e++) {
            int[] rounds = {-1, -1, -1, -1};
            rounds[e] = 3;
            frontierIs(steps(ProgressTracker.BODY, rounds), 0, ProgressTracker.HEAD, e * 16 + 4);
        }
        frontierIs(steps(ProgressTracker.BODY, 3, 2, 1, 0), 0, ProgressTracker.HEAD, 4, 16 + 3, 32 + 2, 48 + 1);
        frontierIs(steps(ProgressTracker.BODY, 3, 3, 3, 3), 0, ProgressTracker.HEAD, 4);
    }

    /** "distinct pairs": HEAD (e,r+1) and BODY (e,r) make the same one at HEAD. */
    private static void equalPairsAreOneElement() {
        for (int e = 0; e < 4; e++) {
            for (int r = 0; r < 3; r++) {
                ProgressTracker x = new ProgressTracker(2);
                Runs.holdAlone(x, 0, ProgressTracker.BODY, e, r);
                Runs.settle(x, 0);
                Runs.holdAlone(x, 1, ProgressTracker.HEAD, e, r + 1);
                Runs.settle(x, 1);
                frontierIs(x, 0, ProgressTracker.HEAD, e * 16 + r + 1);
                frontierIs(x, 0, ProgressTracker.BODY, e * 16 + r);
            }
        }
        twoWorkersAtOnePointstamp();
    }

    private static void twoWorkersAtOnePointstamp() {
        for (int p = Stamp.FIRST_OF_HEAD; p < Stamp.COUNT; p++) {
            ProgressTracker x = new ProgressTracker(2);
            for (int w = 0; w < 2; w++) {
                Runs.holdAlone(x, w, Stamp.op(p), Stamp.epoch(p), Stamp.round(p));
                Runs.settle(x, w);
            }
            frontierIs(x, 0, Stamp.op(p), Stamp.epoch(p) * 16 + Stamp.round(p));
        }
    }

    private static void equalRoundKeepsTheEarlierEpoch() {
        frontierIs(steps(1, 1, 1), 1, 1, 1);
        frontierIs(steps(1, 1, 2), 1, 1, 1);
        frontierIs(steps(1, 1, 0), 1, 1, 1, 16);
        frontierIs(steps(1, 2, 3, 1), 2, 1, 2, 32 + 1);
        frontierIs(steps(1, 3, 1, 2), 0, 1, 3, 16 + 1);
        frontierIs(steps(1, 3, 1, 2, 0), 0, 1, 3, 16 + 1, 48);
        frontierIs(steps(3, -1, 3, 3, 2), 0, 3, 16 + 3, 48 + 2);
    }

    private static void equalEpochKeepsTheLowerRound() {
        ProgressTracker x = new ProgressTracker(1);
        Runs.hold(x, 0, ProgressTracker.BODY, 0, 3);
        Runs.settle(x, 0);
        Runs.need(x.drop(0, 0, 0, 0), 0);
        for (int r = 0; r < 4; r++) {
            Runs.need(x.drop(0, 1, 0, r), 0);
        }
        Runs.settle(x, 0);
        for (int r = 0; r < 4; r++) {
            frontierIs(x, 0, ProgressTracker.HEAD, r + 1);
            frontierIs(x, 0, ProgressTracker.BODY, r);
            Runs.need(x.drop(0, 2, 0, r), 0);
            Runs.settle(x, 0);
        }
        frontierIs(x, 0, ProgressTracker.HEAD);
    }

    private static void lowerFromAnotherOperator() {
        ProgressTracker x = new ProgressTracker(2);
        Runs.holdAlone(x, 0, ProgressTracker.BODY, 0, 1);
        Runs.settle(x, 0);
        Runs.holdAlone(x, 1, ProgressTracker.HEAD, 0, 2);
        Runs.settle(x, 1);
        frontierIs(x, 0, ProgressTracker.HEAD, 2);
        frontierIs(x, 0, ProgressTracker.BODY, 1);
        Runs.need(x.drop(0, 2, 0, 1), 0);
        Runs.settle(x, 0);
        frontierIs(x, 0, ProgressTracker.BODY, 2);
        frontierIs(x, 0, ProgressTracker.SINK, 2);
    }

    private static void looksAtTheViewAlone() {
        ProgressTracker x = new ProgressTracker(2);
        Runs.need(x.advanceInput(0, 0), 0);
        Runs.need(x.advanceInput(1, 0), 0);
        frontierIs(x, 0, ProgressTracker.HEAD, 0);
        Runs.need(x.broadcast(0), 2);
        Runs.need(x.broadcast(1), 2);
        frontierIs(x, 0, ProgressTracker.HEAD, 0);
        Runs.need(x.deliver(0, 0), 2);
        frontierIs(x, 0, ProgressTracker.HEAD, 0);
        Runs.need(x.deliver(1, 0), 2);
        frontierIs(x, 0, ProgressTracker.HEAD, 16);
        frontierIs(x, 1, ProgressTracker.HEAD, 0);
    }

    /** "view[w][(a,e,r)] > 0": at 1 it counts, at 0 no more. */
    private static void zeroDoesNotCount() {
        for (int workers = 1; workers <= 4; workers++) {
            ProgressTracker x = new ProgressTracker(workers);
            for (int w = 0; w < workers; w++) {
                for (int op = 0; op < 4; op++) {
                    frontierIs(x, 0, op, 0);
                }
                Runs.need(x.drop(w, 0, 0, 0), 0);
                Runs.settle(x, w);
            }
            for (int op = 0; op < 4; op++) {
                frontierIs(x, 0, op);
            }
        }
    }

    /** As in CanReachTest, the pairs that a count of -1 would add lie behind those of a count above 0. */
    private static void negativeDoesNotCount() {
        ProgressTracker x = new ProgressTracker(2);
        Runs.need(x.send(0, 0, 0, 0), 0);
        Runs.need(x.advanceInput(0, 0), 0);
        Runs.need(x.receive(1, 1, 0, 0), 0);
        Runs.need(x.drop(1, 1, 0, 0), 0);
        Runs.need(x.drop(1, 0, 0, 0), 0);
        Runs.need(x.broadcast(1), 2);
        Runs.need(x.deliver(1, 1), 2);
        CHECK.due("view at HEAD", x.viewCount(1, 1, 0, 0), -1);
        frontierIs(x, 1, ProgressTracker.SINK, 0);
        Runs.need(x.broadcast(0), 3);
        Runs.need(x.deliver(0, 1), 3);
        frontierIs(x, 1, ProgressTracker.SINK, 16);
        headIsNegative();
    }

    private static void headIsNegative() {
        ProgressTracker x = new ProgressTracker(2);
        Runs.need(x.advanceInput(0, 0), 0);
        Runs.need(x.broadcast(0), 2);
        Runs.need(x.send(0, 0, 1, 0), 0);
        Runs.need(x.receive(1, 1, 1, 0), 0);
        Runs.need(x.drop(1, 1, 1, 0), 0);
        Runs.need(x.drop(1, 0, 0, 0), 0);
        Runs.need(x.drop(0, 0, 1, 0), 0);
        Runs.need(x.broadcast(1), 2);
        Runs.need(x.deliver(1, 1), 2);
        Runs.need(x.deliver(0, 1), 2);
        CHECK.due("view at HEAD", x.viewCount(1, 1, 1, 0), -1);
        frontierIs(x, 1, ProgressTracker.HEAD, 16);
        Runs.need(x.broadcast(0), 2);
        Runs.need(x.deliver(0, 1), 2);
        frontierIs(x, 1, ProgressTracker.HEAD);
    }

    /** "Both methods change nothing." */
    private static void changesNothing() {
        for (int i = 0; i < 16; i++) {
            int w = i / 4;
            int op = i % 4;
            int size = Runs.busy(4).frontierSize(w, op);
            CHECK.changesNothing("frontierSize(" + w + ", " + op + ")", () -> Runs.busy(4),
                t -> t.frontierSize(w, op), size);
            for (int k = -1; k <= 4; k++) {
                int index = k;
                int element = stairs(4).frontierElement(w, op, k);
                CHECK.changesNothing("frontierElement(" + w + ", " + op + ", " + k + ")", () -> stairs(4),
                    t -> t.frontierElement(w, op, index), element);
            }
        }
    }
}
