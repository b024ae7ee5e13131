import java.util.ArrayList;
import java.util.Arrays;
import java.util.List;
import java.util.Set;
import java.util.TreeSet;
import java.util.function.Supplier;

/**
 * All promises: runs in which all methods are called in turns that look like chance, with one to four workers. Each
 * answer, and after each call each count, is held against the model's.
 */
public final class ModelTest {
    private static final Check CHECK = new Check();
    private static final int[] WILD = {Integer.MIN_VALUE, -64, -16, -4, -1, 4, 5, 16, 64, 1 << 30, Integer.MAX_VALUE};

    /** What the runs of each number of workers must have met, and what those of all must. */
    private static final String[] REACHED = {
        "send 0", "send -1", "send -2", "send -4", "send -6", "receive 0", "receive -1", "receive -3",
        "drop 0", "drop -1", "drop -2", "drop -6", "advanceInput 0", "advanceInput -1", "advanceInput -2",
        "advanceInput -5", "broadcast 1", "broadcast 2", "broadcast 8", "broadcast 15", "broadcast 16",
        "broadcast -1", "broadcast -7", "broadcast -8", "deliver 1", "deliver 2", "deliver 8", "deliver 15",
        "deliver 16", "deliver -1", "deliver -8", "canReach 0", "canReach 1", "couldArrive 0", "couldArrive 1",
        "frontierSize 0", "frontierSize 1", "frontierSize 2", "frontierElement -1", "frontierElement 0",
        "frontierElement 16", "viewCount 0", "viewCount 1", "pendingCount -1", "pendingCount 0", "pendingCount 1",
        "messages 0", "messages 1", "capabilities 0", "capabilities 1", "queuedBatches 0", "queuedBatches 1",
        "isQuiet 0", "isQuiet 1"};
    private static final String[] REACHED_BY_ANY = {"advanceInput -6", "frontierSize 3", "round 4"};

    /** Each with the number of workers before it. */
    private static final Set<String> SEEN = new TreeSet<>();

    /**
     * Roughly: one call in pace is a broadcast, one in shyness a delivery, one in 20 * patience an advance; and where
     * there are more messages and capabilities than crowd, nothing is sent.
     */
    private record Style(int pace, int shyness, int patience, int crowd) {
    }

    private static final int NO_CROWD = Integer.MAX_VALUE;
    private static final Style CATCHING_UP = new Style(12, 3, 15, 0);
    private static final Style[] STRETCHES = {
        new Style(4, 2, 15, 40), CATCHING_UP, new Style(12, 3, 15, 60), CATCHING_UP, new Style(300, 4, 15, NO_CROWD),
        CATCHING_UP, new Style(8, 40, 15, NO_CROWD), CATCHING_UP};

    private final ProgressTracker real;
    private final Model model;
    private Style style = CATCHING_UP;
    private boolean keepsInputs = false;
    private long state;

    private ModelTest(int workers, int seed) {
        this.state = seed;
        this.real = new ProgressTracker(workers);
        this.model = new Model(workers);
    }

    public static void main(String[] args) {
        int seed = 0;
        for (int workers = 1; workers <= 4; workers++) {
            seed = shortRuns(workers, seed);
            for (int i = 0; i < 4; i++) {
                new ModelTest(workers, ++seed).longRun();
            }
            reached(workers);
        }
        for (String answer : REACHED_BY_ANY) {
            boolean seen = SEEN.stream().anyMatch(met -> met.endsWith(": " + answer));
            CHECK.due("whether any run met '" + answer + "'", seen, true);
        }
        for (int clamped : new int[] {Integer.MIN_VALUE, -1, 0, 5, 6, Integer.MAX_VALUE}) {
            new ModelTest(clamped, ++seed).shortRun(new Style(8, 3, 4, NO_CROWD));
        }
        CHECK.end();
    }

    private static int shortRuns(int workers, int from) {
        int seed = from;
        for (int pace : new int[] {3, 8, 30, 200}) {
            for (int shyness : new int[] {2, 5, 40}) {
                for (int patience : new int[] {1, 4, 16}) {
                    Style style = new Style(pace, shyness, patience, NO_CROWD);
                    new ModelTest(workers, ++seed).shortRun(style);
                    new ModelTest(workers, ++seed).shortRun(style);
                }
            }
        }
        return seed;
    }

    private static void reached(int workers) {
        for (String answer : REACHED) {
            String met = workers + ": " + answer;
            CHECK.due("whether the runs met '" + met + "'", SEEN.contains(met), true);
        }
        // One worker alone hears of all changes in their order.
        CHECK.due("whether a view of " + workers + " workers was below 0", SEEN.contains(workers + ": view below 0"),
            workers > 1);
    }

    private void shortRun(Style chosen) {
        style = chosen;
        go(600);
        style = CATCHING_UP;
        go(400);
    }

    /** The inputs are kept until the end, so that the run does not come to rest before. */
    private void longRun() {
        keepsInputs = true;
        for (int stretch = 0; stretch < 16; stretch++) {
            style = STRETCHES[stretch % STRETCHES.length];
            go(1000);
        }
        keepsInputs = false;
        style = CATCHING_UP;
        go(1000);
        allHearOfAll();
    }

    /** A fixed sequence that looks like chance (Knuth's MMIX generator): the same in every run. */
    private int below(int bound) {
        state = state * 6364136223846793005L + 1442695040888963407L;
        return (int) ((state >>> 33) % bound);
    }

    private int small() {
        return below(60) == 0 ? WILD[below(WILD.length)] : below(4);
    }

    private int worker() {
        return below(60) == 0 ? WILD[below(WILD.length)] : below(model.workers);
    }

    private void go(int calls) {
        for (int i = 0; i < calls; i++) {
            if (below(style.pace) == 0) {
                broadcast();
            } else if (below(style.shyness) == 0) {
                deliver();
            } else if (below(4) == 0) {
                ask(below(10));
            } else {
                change();
            }
            sameCounts();
            if (i % 5 == 0) {
                sameConclusions();
            }
        }
    }

    /** When everything is broadcast and delivered, every worker's view is the truth. */
    private void allHearOfAll() {
        for (int w = 0; w < model.workers; w++) {
            for (int i = 0; i < 2; i++) {
                Runs.settle(real, w);
            }
        }
        CHECK.due("isQuiet when all have heard of all", real.isQuiet(), true);
        for (int p = 0; p < Stamp.COUNT; p++) {
            int op = Stamp.op(p);
            int e = Stamp.epoch(p);
            int r = Stamp.round(p);
            int all = real.messages(op, e, r);
            for (int w = 0; w < model.workers; w++) {
                all += real.capabilities(w, op, e, r);
            }
            for (int w = 0; w < model.workers; w++) {
                CHECK.due("viewCount of " + w + " at " + Stamp.name(p), real.viewCount(w, op, e, r), all);
                CHECK.due("canReach of " + w + " to " + Stamp.name(p), real.canReach(w, op, e, r),
                    real.couldArrive(op, e, r));
            }
        }
    }

    private void met(String call, int got, int want, int... args) {
        CHECK.due(call + Arrays.toString(args), got, want);
        saw(call + " " + want);
    }

    private void met(String call, boolean got, boolean want, int... args) {
        met(call, got ? 1 : 0, want ? 1 : 0, args);
    }

    private void saw(String what) {
        SEEN.add(model.workers + ": " + what);
    }

    private void ask(int kind) {
        int w = worker();
        int other = worker();
        int op = small();
        int e = small();
        int r = small();
        switch (kind) {
            case 0 -> met("canReach", real.canReach(w, op, e, r), model.canReach(w, op, e, r), w, op, e, r);
            case 1 -> met("couldArrive", real.couldArrive(op, e, r), model.couldArrive(op, e, r), op, e, r);
            case 2 -> met("frontierSize", real.frontierSize(w, op), model.frontierSize(w, op), w, op);
            case 3 -> met("frontierElement", real.frontierElement(w, op, e), model.frontierElement(w, op, e), w, op, e);
            case 4 -> met("viewCount", real.viewCount(w, op, e, r), model.viewCount(w, op, e, r), w, op, e, r);
            case 5 -> met("pendingCount", real.pendingCount(w, op, e, r), model.pendingCount(w, op, e, r), w, op, e, r);
            case 6 -> met("messages", real.messages(op, e, r), model.messages(op, e, r), op, e, r);
            case 7 -> met("capabilities", real.capabilities(w, op, e, r), model.capabilities(w, op, e, r), w, op, e, r);
            case 8 -> met("queuedBatches", real.queuedBatches(w, other), model.queuedBatches(w, other), w, other);
            default -> met("isQuiet", real.isQuiet(), model.isQuiet());
        }
    }

    private void broadcast() {
        int w = worker();
        met("broadcast", real.broadcast(w), model.broadcast(w), w);
    }

    private void deliver() {
        int s = worker();
        int r = worker();
        met("deliver", real.deliver(s, r), model.deliver(s, r), s, r);
    }

    private void change() {
        int turn = below(20);
        int kind = turn > 0 && turn < 10 && isCrowded() ? turn + 10 : turn;
        int w = worker();
        if (kind == 0 && (below(style.patience) == 0 || isNearlyFull(w))) {
            int epoch = below(2) == 0 ? epochOfInput(w) : small();
            met("advanceInput", real.advanceInput(w, epoch), model.advanceInput(w, epoch), w, epoch);
        } else if (kind < 10) {
            send(w);
        } else if (kind < 16) {
            int[] p = someOf(model.msgs);
            met("receive", real.receive(w, p[0], p[1], p[2]), model.receive(w, p[0], p[1], p[2]), w, p[0], p[1], p[2]);
        } else {
            int[] p = style == CATCHING_UP ? earlierHeld(w) : held(w);
            // The inputs are dropped seldom, since a run comes to its end without them.
            if (p[0] != 0 || !keepsInputs && (style == CATCHING_UP || below(8) == 0)) {
                met("drop", real.drop(w, p[0], p[1], p[2]), model.drop(w, p[0], p[1], p[2]), w, p[0], p[1], p[2]);
            }
        }
    }

    private void send(int w) {
        int[] p = held(w);
        int edge = p[0] == 3 ? small() : p[0] == 2 ? 2 + below(2) : p[0];
        met("send", real.send(w, edge, p[1], p[2]), model.send(w, edge, p[1], p[2]), w, edge, p[1], p[2]);
    }

    private int epochOfInput(int w) {
        for (int e = 0; 0 <= w && w < model.workers && e < 4; e++) {
            if (model.caps.get(w).at(new Model.Point(0, e, 0)) > 0) {
                return e;
            }
        }
        return small();
    }

    private int[] held(int w) {
        boolean known = 0 <= w && w < model.workers;
        return someOf(known ? model.caps.get(w) : new Model.Bag());
    }

    /** The earlier of two: the first rounds of the first epochs are left first, as in a run that comes to its end. */
    private int[] earlierHeld(int w) {
        int[] one = held(w);
        int[] other = held(w);
        boolean first = one[1] != other[1] ? one[1] < other[1] : one[2] < other[2];
        return first ? one : other;
    }

    /** A view empties out only where there are not too many messages and capabilities. */
    private boolean isCrowded() {
        int all = model.msgs.total();
        for (Model.Bag held : model.caps) {
            all += held.total();
        }
        return all > style.crowd;
    }

    private boolean isNearlyFull(int w) {
        return 0 <= w && w < model.workers && model.pending.get(w).size() >= 15;
    }

    /** Mostly a pointstamp with a count, sometimes any, sometimes none at all. */
    private int[] someOf(Model.Bag counts) {
        if (counts.isEmpty() || below(10) == 0) {
            return new int[] {small(), small(), small()};
        }
        List<Model.Point> points = new ArrayList<>(counts.keySet());
        Model.Point p = points.get(below(points.size()));
        return new int[] {p.op(), p.epoch(), p.round()};
    }

    private void sameCounts() {
        for (int index = 0; index < 64; index++) {
            Model.Point p = new Model.Point(index / 16, index / 4 % 4, index % 4);
            int want = model.messages(p.op(), p.epoch(), p.round());
            CHECK.dueOften(() -> "messages at " + p, real.messages(p.op(), p.epoch(), p.round()), want);
            for (int w = 0; w <= model.workers; w++) {
                sameCounts(w, p);
            }
        }
        for (int s = 0; s < 4; s++) {
            for (int r = 0; r < 4; r++) {
                CHECK.dueOften(() -> "queuedBatches", real.queuedBatches(s, r), model.queuedBatches(s, r));
            }
        }
        CHECK.dueOften(() -> "isQuiet", real.isQuiet() ? 1 : 0, model.isQuiet() ? 1 : 0);
    }

    private void sameCounts(int w, Model.Point p) {
        int op = p.op();
        int e = p.epoch();
        int r = p.round();
        int view = model.viewCount(w, op, e, r);
        Supplier<String> at = () -> "a count of " + w + " at " + p;
        CHECK.dueOften(at, real.capabilities(w, op, e, r), model.capabilities(w, op, e, r));
        CHECK.dueOften(at, real.pendingCount(w, op, e, r), model.pendingCount(w, op, e, r));
        CHECK.dueOften(at, real.viewCount(w, op, e, r), view);
        if (view < 0) {
            saw("view below 0");
            // As CanReachTest reasons: a count above 0 could result in every count below 0.
            CHECK.due("canReach of " + w + " to " + p + ", below 0", real.canReach(w, op, e, r), true);
        }
    }

    private void sameConclusions() {
        for (int index = 0; index < 64; index++) {
            int op = index / 16;
            int e = index / 4 % 4;
            int r = index % 4;
            String to = op + ", " + e + ", " + r;
            CHECK.due("couldArrive at " + to, real.couldArrive(op, e, r), model.couldArrive(op, e, r));
            for (int w = 0; w < 4; w++) {
                CHECK.due("canReach of " + w + " to " + to, real.canReach(w, op, e, r), model.canReach(w, op, e, r));
            }
        }
        for (int w = -1; w <= model.workers; w++) {
            for (int op = -1; op <= 4; op++) {
                sameFrontier(w, op);
            }
        }
    }

    private void sameFrontier(int w, int op) {
        met("frontierSize", real.frontierSize(w, op), model.frontierSize(w, op), w, op);
        for (int index = -1; index <= 4; index++) {
            int want = model.frontierElement(w, op, index);
            met("frontierElement", real.frontierElement(w, op, index), want, w, op, index);
            if (want >= 0 && want % 16 == 4) {
                saw("round 4");
            }
        }
    }
}
