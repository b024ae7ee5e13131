import java.util.ArrayList;
import java.util.Comparator;
import java.util.HashSet;
import java.util.List;
import java.util.Set;

/**
 * "What it is": the frontier's steps 1 to 4, with counts at several operators at once. First each step by itself, with
 * answers worked out by hand; then many states, in which the test takes the steps just as the document says them.
 */
public final class FrontierStepsTest {
    private static final Check CHECK = new Check();
    private static final int SOURCE = 0;
    private static final int HEAD = 16;
    private static final int BODY = 32;
    private static final int SINK = 48;

    private record Time(int epoch, int round) {
        boolean isBelow(Time other) {
            return epoch <= other.epoch && round <= other.round;
        }
    }

    public static void main(String[] args) {
        stepOneTakesCountsAboveZero();
        stepOneAddsTheSummary();
        stepOneTakesPathsOnly();
        stepOneTakesEqualPairsOnce();
        stepTwoKeepsWhatNoOtherIsBelow();
        stepThreeNumbersByEpoch();
        stepFourRoundMayBeFour();
        everyTwoPointstamps();
        manyPointstamps();
        whileBatchesWait();
        CHECK.end();
    }

    /** Worker i holds a capability at the i-th pointstamp, nothing else is anywhere, and all workers know. */
    private static ProgressTracker holding(int... points) {
        ProgressTracker x = new ProgressTracker(points.length);
        for (int w = 0; w < points.length; w++) {
            Runs.holdAlone(x, w, Stamp.op(points[w]), Stamp.epoch(points[w]), Stamp.round(points[w]));
            Runs.settle(x, w);
        }
        return x;
    }

    /** The index of a pointstamp whose operator begins at this index. */
    private static int at(int first, int epoch, int round) {
        return first + epoch * 4 + round;
    }

    private static void frontierIs(ProgressTracker x, int first, int... elements) {
        int op = first / 16;
        CHECK.due("frontierSize of operator " + op, x.frontierSize(0, op), elements.length);
        for (int i = 0; i <= elements.length; i++) {
            int want = i < elements.length ? elements[i] : -1;
            CHECK.due("frontierElement " + i + " of operator " + op, x.frontierElement(0, op, i), want);
        }
    }

    /** "over all pointstamps (a,e,r) with view[w][(a,e,r)] > 0" */
    private static void stepOneTakesCountsAboveZero() {
        ProgressTracker x = holding(at(BODY, 1, 1), at(HEAD, 2, 0), at(SINK, 0, 3));
        frontierIs(x, SINK, 3, 17, 32);
        Runs.need(x.drop(0, 2, 1, 1), 0);
        Runs.settle(x, 0);
        frontierIs(x, SINK, 3, 32);
        Runs.need(x.drop(2, 3, 0, 3), 0);
        Runs.settle(x, 2);
        frontierIs(x, SINK, 32);
        Runs.need(x.drop(1, 1, 2, 0), 0);
        Runs.settle(x, 1);
        frontierIs(x, SINK);
    }

    /** "the set of [...] pairs (e, r+K[a][b])": BODY (0,0) is (0,1) at HEAD, so that HEAD (1,0) is not behind it. */
    private static void stepOneAddsTheSummary() {
        ProgressTracker x = holding(at(BODY, 0, 0), at(HEAD, 1, 0));
        frontierIs(x, SOURCE);
        frontierIs(x, HEAD, 1, 16);
        frontierIs(x, BODY, 0);
        frontierIs(x, SINK, 0);
    }

    /** "and K[a][b] != NONE" */
    private static void stepOneTakesPathsOnly() {
        ProgressTracker x = holding(at(SINK, 0, 0), at(HEAD, 1, 2), at(SOURCE, 3, 0));
        frontierIs(x, SOURCE, 48);
        frontierIs(x, HEAD, 18, 48);
        frontierIs(x, BODY, 18, 48);
        frontierIs(x, SINK, 0);
    }

    /** "distinct pairs" */
    private static void stepOneTakesEqualPairsOnce() {
        ProgressTracker x = holding(at(BODY, 1, 1), at(HEAD, 1, 2), at(BODY, 1, 1));
        frontierIs(x, HEAD, 18);
        frontierIs(x, BODY, 17);
        frontierIs(x, SINK, 17);
    }

    /** "The frontier is the set of elements of M that no other element of M is <= (product order)." */
    private static void stepTwoKeepsWhatNoOtherIsBelow() {
        ProgressTracker x = holding(at(SOURCE, 2, 0), at(BODY, 0, 1), at(HEAD, 1, 1));
        frontierIs(x, SOURCE, 32);
        frontierIs(x, HEAD, 2, 17, 32);
        frontierIs(x, BODY, 1, 32);
        frontierIs(x, SINK, 1, 32);
        x = holding(at(HEAD, 0, 3), at(BODY, 1, 1), at(SINK, 0, 0));
        frontierIs(x, HEAD, 3, 18);
        frontierIs(x, BODY, 3, 17);
        frontierIs(x, SINK, 0);
    }

    /** "Its elements have distinct epochs. They are numbered 0, 1, ... in increasing epoch." */
    private static void stepThreeNumbersByEpoch() {
        ProgressTracker x = holding(at(HEAD, 3, 0), at(HEAD, 0, 3), at(BODY, 2, 0), at(BODY, 1, 1));
        frontierIs(x, HEAD, 3, 18, 33, 48);
        frontierIs(x, BODY, 3, 17, 32);
        x = holding(at(SINK, 1, 0), at(BODY, 1, 1), at(HEAD, 1, 2), at(HEAD, 1, 3));
        frontierIs(x, HEAD, 18);
        frontierIs(x, BODY, 17);
        frontierIs(x, SINK, 16);
    }

    /** "The round of an element may be 4." */
    private static void stepFourRoundMayBeFour() {
        ProgressTracker x = holding(at(BODY, 1, 3), at(HEAD, 2, 3), at(SINK, 0, 0));
        frontierIs(x, HEAD, 20, 35);
        frontierIs(x, BODY, 19);
        x = holding(at(BODY, 0, 3), at(BODY, 3, 3));
        frontierIs(x, HEAD, 4);
        frontierIs(x, BODY, 3);
    }

    private static void everyTwoPointstamps() {
        for (int p = 0; p < Stamp.COUNT; p++) {
            for (int q = 0; q < Stamp.COUNT; q++) {
                if (Stamp.canHaveACount(p) && Stamp.canHaveACount(q)) {
                    isAsTheStepsSay(holding(p, q), 2);
                }
            }
        }
    }

    /** Four pointstamps of a fixed sequence: 23 and 64 have no common divisor, so all come about equally often. */
    private static void manyPointstamps() {
        for (int i = 0; i < 3000; i++) {
            int[] points = {i * 23 % 64, i * 5 % 61, (i / 7 * 11 + 3) % 64, (i / 3 * 19 + 40) % 64};
            for (int k = 0; k < points.length; k++) {
                points[k] = Stamp.canHaveACount(points[k]) ? points[k] : points[k] / 4 * 4;
            }
            isAsTheStepsSay(holding(points), 4);
        }
    }

    /** Worker 1 tells that a message is gone before worker 0 tells that it was sent: the views differ meanwhile. */
    private static void whileBatchesWait() {
        for (int p = HEAD; p < Stamp.COUNT; p++) {
            ProgressTracker x = new ProgressTracker(2);
            Runs.holdBefore(x, 0, p);
            Runs.settle(x, 0);
            Runs.sendTo(x, 0, p);
            Runs.need(x.receive(1, Stamp.op(p), Stamp.epoch(p), Stamp.round(p)), 0);
            Runs.dropAt(x, 1, p);
            Runs.need(x.drop(1, 0, 0, 0), 0);
            Runs.need(x.broadcast(1), 2);
            Runs.need(x.deliver(1, 0), 2);
            CHECK.due("view at " + Stamp.name(p), x.viewCount(0, Stamp.op(p), Stamp.epoch(p), Stamp.round(p)), -1);
            isAsTheStepsSay(x, 2);
            Runs.need(x.broadcast(0), 1);
            Runs.need(x.deliver(0, 1), 1);
            isAsTheStepsSay(x, 2);
            Runs.need(x.deliver(0, 0), 1);
            Runs.need(x.deliver(1, 1), 2);
            isAsTheStepsSay(x, 2);
        }
    }

    private static void isAsTheStepsSay(ProgressTracker x, int workers) {
        for (int w = 0; w < workers; w++) {
            for (int op = 0; op < 4; op++) {
                List<Time> due = stepThree(stepTwo(stepOne(x, w, op)));
                String at = " of operator " + op + " at worker " + w;
                CHECK.due("frontierSize" + at, x.frontierSize(w, op), due.size());
                for (int i = 0; i < due.size(); i++) {
                    int element = due.get(i).epoch * 16 + due.get(i).round;
                    CHECK.due("frontierElement " + i + at, x.frontierElement(w, op, i), element);
                }
            }
        }
    }

    private static Set<Time> stepOne(ProgressTracker x, int w, int b) {
        Set<Time> m = new HashSet<>();
        for (int p = 0; p < Stamp.COUNT; p++) {
            int k = Graph.K[Stamp.op(p)][b];
            if (x.viewCount(w, Stamp.op(p), Stamp.epoch(p), Stamp.round(p)) > 0 && k != Graph.NONE) {
                m.add(new Time(Stamp.epoch(p), Stamp.round(p) + k));
            }
        }
        return m;
    }

    private static Set<Time> stepTwo(Set<Time> m) {
        Set<Time> least = new HashSet<>(m);
        least.removeIf(time -> m.stream().anyMatch(other -> !other.equals(time) && other.isBelow(time)));
        return least;
    }

    private static List<Time> stepThree(Set<Time> least) {
        List<Time> numbered = new ArrayList<>(least);
        numbered.sort(Comparator.comparingInt(Time::epoch));
        for (int i = 1; i < numbered.size(); i++) {
            CHECK.due("whether epochs are distinct", numbered.get(i - 1).epoch < numbered.get(i).epoch, true);
        }
        return numbered;
    }
}
