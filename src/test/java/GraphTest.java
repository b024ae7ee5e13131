import java.util.Arrays;

/**
 * "What it is": the graph, the order of timestamps, the summary K and could-result-in. A comment in quotes is the
 * sentence of the document that the test below it holds.
 */
public final class GraphTest {
    private static final Check CHECK = new Check();
    private static final int SOURCE = 0;
    private static final int HEAD = 1;
    private static final int BODY = 2;
    private static final int SINK = 3;
    private static final int NONE = -1;

    public static void main(String[] args) {
        operators();
        edges();
        productOrder();
        rowsOfTheSummary();
        leastOverEveryPath();
        couldResultInNeedsAPath();
        couldResultInNeedsTheEpoch();
        couldResultInNeedsTheRound();
        CHECK.end();
    }

    /** "Operators: 0 SOURCE, 1 HEAD, 2 BODY, 3 SINK." */
    private static void operators() {
        ProgressTracker x = new ProgressTracker(1);
        CHECK.due("capabilities at operator 0 at the start", x.capabilities(0, 0, 0, 0), 1);
        for (int op = 0; op < 4; op++) {
            CHECK.due("frontierSize of operator " + op, x.frontierSize(0, op), 1);
            CHECK.due("receive at operator " + op, x.receive(0, op, 0, 0), -3);
        }
        CHECK.due("receive at operator 4", x.receive(0, 4, 0, 0), -1);
        CHECK.due("receive at operator -1", x.receive(0, -1, 0, 0), -1);
    }

    /** "edge 0: 0->1", "edge 1: 1->2", "edge 2: 2->1, the feedback edge, which adds 1 to the round", "edge 3: 2->3" */
    private static void edges() {
        edgeLeads(0, SOURCE, HEAD, 0);
        edgeLeads(1, HEAD, BODY, 0);
        edgeLeads(2, BODY, HEAD, 1);
        edgeLeads(3, BODY, SINK, 0);
    }

    /** From every pointstamp: only where the edge begins is a send taken, and its message waits where the edge ends. */
    private static void edgeLeads(int edge, int from, int to, int added) {
        for (int p = 0; p < Stamp.COUNT; p++) {
            int e = Stamp.epoch(p);
            int r = Stamp.round(p);
            String what = "send on edge " + edge + " from " + Stamp.name(p);
            if (!Stamp.canHaveACount(p)) {
                continue;
            }
            if (Stamp.op(p) != from) {
                CHECK.call(Runs.alone(p), what, t -> t.send(0, edge, e, r), -2);
            } else if (r + added > 3) {
                CHECK.call(Runs.alone(p), what, t -> t.send(0, edge, e, r), -4);
            } else {
                String at = Stamp.name(Stamp.at(to, e, r + added));
                CHECK.call(Runs.alone(p), what, t -> t.send(0, edge, e, r), 0,
                    "msgs" + at + " 0->1", "pending[0]" + at + " 0->1");
            }
        }
    }

    /** "(e1,r1) <= (e2,r2) iff e1<=e2 and r1<=r2": at one operator, could-result-in is just that. */
    private static void productOrder() {
        for (int p = 0; p < Stamp.COUNT; p++) {
            if (!Stamp.canHaveACount(p)) {
                continue;
            }
            ProgressTracker x = Runs.alone(p);
            int op = Stamp.op(p);
            for (int e2 = 0; e2 < 4; e2++) {
                for (int r2 = 0; r2 < 4; r2++) {
                    boolean want = Stamp.epoch(p) <= e2 && Stamp.round(p) <= r2;
                    String to = " from " + Stamp.name(p) + " to (" + e2 + "," + r2 + ")";
                    CHECK.due("canReach" + to, x.canReach(0, op, e2, r2), want);
                    CHECK.due("couldArrive" + to, x.couldArrive(op, e2, r2), want);
                }
            }
        }
    }

    /** "Rows a, columns b = 0..3" */
    private static void rowsOfTheSummary() {
        row(SOURCE, 0, 0, 0, 0);
        row(HEAD, NONE, 0, 0, 0);
        row(BODY, NONE, 1, 0, 0);
        row(SINK, NONE, NONE, NONE, 0);
    }

    private static void row(int a, int... k) {
        for (int i = 0; i < 16; i++) {
            int p = Stamp.at(a, i / 4, i % 4);
            for (int b = 0; Stamp.canHaveACount(p) && b < 4; b++) {
                if (k[b] == NONE) {
                    leadsNowhere(p, b);
                } else {
                    leadsTo(p, b, Stamp.round(p) + k[b]);
                }
            }
        }
    }

    private static void leadsNowhere(int p, int b) {
        ProgressTracker x = Runs.alone(p);
        String where = " of operator " + b + " from " + Stamp.name(p);
        CHECK.due("frontierSize" + where, x.frontierSize(0, b), 0);
        CHECK.due("frontierElement" + where, x.frontierElement(0, b, 0), -1);
        CHECK.due("canReach" + where, x.canReach(0, b, 3, 3), false);
        CHECK.due("couldArrive" + where, x.couldArrive(b, 3, 3), false);
    }

    private static void leadsTo(int p, int b, int least) {
        ProgressTracker x = Runs.alone(p);
        String where = " of operator " + b + " from " + Stamp.name(p);
        CHECK.due("frontierSize" + where, x.frontierSize(0, b), 1);
        CHECK.due("frontierElement" + where, x.frontierElement(0, b, 0), Stamp.epoch(p) * 16 + least);
        for (int round = 0; round < 4; round++) {
            String inRound = where + " in round " + round;
            CHECK.due("canReach" + inRound, x.canReach(0, b, Stamp.epoch(p), round), least <= round);
            CHECK.due("couldArrive" + inRound, x.couldArrive(b, Stamp.epoch(p), round), least <= round);
        }
    }

    /**
     * "the least number of feedback edges on a directed path from operator a to operator b. The empty path counts."
     * The table isn't looked at here: messages walk every path of up to four edges, and a path that comes to no
     * operator twice has three at most.
     */
    private static void leastOverEveryPath() {
        for (int a = 0; a < 4; a++) {
            int[] walked = new int[4];
            Arrays.fill(walked, NONE);
            for (int path = 0; path < 256; path++) {
                walk(a, path, walked);
            }
            ProgressTracker x = Runs.alone(Stamp.at(a, 0, 0));
            for (int b = 0; b < 4; b++) {
                int element = x.frontierElement(0, b, 0);
                CHECK.due("least feedback edges from " + a + " to " + b, element, walked[b]);
            }
        }
    }

    /** The path is four edges to try, in base 4; it ends at the first that does not begin where it has come to. */
    private static void walk(int a, int path, int[] walked) {
        ProgressTracker x = Runs.alone(Stamp.at(a, 0, 0));
        int at = Stamp.at(a, 0, 0);
        lower(walked, at);
        for (int left = path, i = 0; i < 4; left /= 4, i++) {
            if (x.send(0, left % 4, 0, Stamp.round(at)) != 0) {
                return;
            }
            at = whereAMessageWaits(x);
            Runs.need(x.receive(0, Stamp.op(at), 0, Stamp.round(at)), 0);
            lower(walked, at);
        }
    }

    private static void lower(int[] walked, int at) {
        int op = Stamp.op(at);
        if (walked[op] == NONE || Stamp.round(at) < walked[op]) {
            walked[op] = Stamp.round(at);
        }
    }

    private static int whereAMessageWaits(ProgressTracker x) {
        int found = NONE;
        for (int p = 0; p < Stamp.COUNT; p++) {
            if (x.messages(Stamp.op(p), Stamp.epoch(p), Stamp.round(p)) == 1) {
                found = p;
            }
        }
        return found;
    }

    /** "iff K[a][b] != NONE [...]" */
    private static void couldResultInNeedsAPath() {
        reaches(HEAD, 0, 0, SOURCE, 3, 3, false);
        reaches(BODY, 0, 0, SOURCE, 3, 3, false);
        reaches(SINK, 0, 0, SOURCE, 3, 3, false);
        reaches(SINK, 0, 0, HEAD, 3, 3, false);
        reaches(SINK, 0, 0, BODY, 3, 3, false);
        reaches(SINK, 0, 0, SINK, 0, 0, true);
        reaches(SOURCE, 0, 0, SINK, 0, 0, true);
    }

    /** "[...] e1 <= e2 [...]" */
    private static void couldResultInNeedsTheEpoch() {
        for (int e1 = 0; e1 < 4; e1++) {
            for (int e2 = 0; e2 < 4; e2++) {
                reaches(SOURCE, e1, 0, SOURCE, e2, 3, e1 <= e2);
                reaches(SOURCE, e1, 0, SINK, e2, 3, e1 <= e2);
                reaches(HEAD, e1, 1, BODY, e2, 3, e1 <= e2);
                reaches(BODY, e1, 0, HEAD, e2, 3, e1 <= e2);
                reaches(BODY, e1, 2, HEAD, e2, 3, e1 <= e2);
                reaches(SINK, e1, 3, SINK, e2, 3, e1 <= e2);
            }
        }
    }

    /** "[...] and r1 + K[a][b] <= r2" */
    private static void couldResultInNeedsTheRound() {
        for (int r1 = 0; r1 < 4; r1++) {
            for (int r2 = 0; r2 < 4; r2++) {
                reaches(SOURCE, 0, 0, HEAD, 0, r2, true);
                reaches(HEAD, 1, r1, HEAD, 3, r2, r1 <= r2);
                reaches(HEAD, 1, r1, BODY, 1, r2, r1 <= r2);
                reaches(HEAD, 1, r1, SINK, 1, r2, r1 <= r2);
                reaches(BODY, 1, r1, HEAD, 1, r2, r1 + 1 <= r2);
                reaches(BODY, 1, r1, HEAD, 3, r2, r1 + 1 <= r2);
                reaches(BODY, 1, r1, SINK, 2, r2, r1 <= r2);
                reaches(SINK, 1, r1, SINK, 3, r2, r1 <= r2);
            }
        }
    }

    private static void reaches(int a, int e1, int r1, int b, int e2, int r2, boolean want) {
        ProgressTracker x = Runs.alone(Stamp.at(a, e1, r1));
        String what = " from " + Stamp.name(Stamp.at(a, e1, r1)) + " to " + Stamp.name(Stamp.at(b, e2, r2));
        CHECK.due("canReach" + what, x.canReach(0, b, e2, r2), want);
        CHECK.due("couldArrive" + what, x.couldArrive(b, e2, r2), want);
    }
}
