import java.util.ArrayList;
import java.util.Arrays;
import java.util.List;
import java.util.Set;
import java.util.TreeSet;
import java.util.function.Supplier;

/** All promises: long runs of mixed calls, each answer and then each count held against the model's. */
public final class ModelTest {
    private static final Check CHECK = new Check();
    private static final int[] WILD = {Integer.MIN_VALUE, -64, -16, -4, -1, 4, 5, 16, 64, 1 << 30, Integer.MAX_VALUE};
    private static final String[] REACHED = {
        "send 0", "send -1", "send -2", "send -4", "send -6",
        "receive 0", "receive -1", "receive -3",
        "drop 0", "drop -1", "drop -2", "drop -6",
        "advanceInput 0", "advanceInput -1", "advanceInput -2", "advanceInput -5", "advanceInput -6",
        "broadcast 1", "broadcast 2", "broadcast 8", "broadcast 15", "broadcast 16",
        "broadcast -1", "broadcast -7", "broadcast -8",
        "deliver 1", "deliver 2", "deliver 8", "deliver 15", "deliver 16", "deliver -1", "deliver -8",
        "frontierSize 0", "frontierSize 1", "frontierSize 2", "frontierSize 3", "view below 0", "round 4",
    };

    private static final Set<String> SEEN = new TreeSet<>();

    private final int pace;
    private final int shyness;
    private final int patience;
    private final ProgressTracker real;
    private final Model model;
    private long state;

    /** Roughly: one call in pace is a broadcast, one in shyness a delivery, one in 20 * patience an advance. */
    private ModelTest(int workers, int pace, int shyness, int patience, int seed) {
        this.pace = pace;
        this.shyness = shyness;
        this.patience = patience;
        this.state = seed;
        this.real = new ProgressTracker(workers);
        this.model = new Model(workers);
    }

    public static void main(String[] args) {
        int[] paces = {3, 8, 30, 200};
        int[] shynesses = {2, 5, 40};
        int[] patiences = {1, 4, 16};
        int seed = 0;
        for (int workers = 0; workers <= 5; workers++) {
            for (int pace : paces) {
                for (int shyness : shynesses) {
                    for (int patience : patiences) {
                        new ModelTest(workers, pace, shyness, patience, ++seed).run(600, 300);
                        new ModelTest(workers, pace, shyness, patience, ++seed).run(600, 300);
                    }
                }
            }
        }
        for (String answer : REACHED) {
            CHECK.due("whether the runs met '" + answer + "'", SEEN.contains(answer), true);
        }
        CHECK.end();
    }

    /** A fixed sequence that looks like chance (Knuth's MMIX generator): the same in every run. */
    private int below(int bound) {
        state = state * 6364136223846793005L + 1442695040888963407L;
        return (int) ((state >>> 33) % bound);
    }

    private int small() {
        return below(60) == 0 ? WILD[below(WILD.length)] : below(4);
    }

    private int worker() {
        return below(60) == 0 ? WILD[below(WILD.length)] : below(model.workers);
    }

    /** At the end of a run nothing new is sent, so that the views empty out. */
    private void run(int calls, int callsAtTheEnd) {
        for (int i = 0; i < calls + callsAtTheEnd; i++) {
            if (below(pace) == 0) {
                broadcast();
            } else if (below(shyness) == 0) {
                deliver();
            } else {
                change(i >= calls);
            }
            sameCounts();
            if (i % 5 == 0) {
                sameConclusions();
            }
        }
    }

    private void met(String call, int got, int want, int... args) {
        CHECK.due(call + Arrays.toString(args), got, want);
        SEEN.add(call + " " + want);
    }

    private void broadcast() {
        int w = worker();
        met("broadcast", real.broadcast(w), model.broadcast(w), w);
    }

    private void deliver() {
        int s = worker();
        int r = worker();
        met("deliver", real.deliver(s, r), model.deliver(s, r), s, r);
    }

    private void change(boolean atTheEnd) {
        int kind = atTheEnd ? 10 + below(10) : below(20);
        if (kind == 0 && below(patience) == 0) {
            int w = worker();
            int epoch = below(2) == 0 ? epochOfInput(w) : small();
            met("advanceInput", real.advanceInput(w, epoch), model.advanceInput(w, epoch), w, epoch);
        } else if (kind < 10) {
            send();
        } else if (kind < 16) {
            int w = worker();
            int[] p = someOf(model.msgs);
            met("receive", real.receive(w, p[0], p[1], p[2]), model.receive(w, p[0], p[1], p[2]), w, p[0], p[1], p[2]);
        } else {
            int w = worker();
            int[] p = held(w);
            // The inputs are dropped seldom, since a run comes to its end without them.
            if (p[0] != 0 || atTheEnd || below(8) == 0) {
                met("drop", real.drop(w, p[0], p[1], p[2]), model.drop(w, p[0], p[1], p[2]), w, p[0], p[1], p[2]);
            }
        }
    }

    private void send() {
        int w = worker();
        int[] p = held(w);
        int edge = p[0] == 3 ? small() : p[0] == 2 ? 2 + below(2) : p[0];
        met("send", real.send(w, edge, p[1], p[2]), model.send(w, edge, p[1], p[2]), w, edge, p[1], p[2]);
    }

    private int epochOfInput(int w) {
        for (int e = 0; 0 <= w && w < model.workers && e < 4; e++) {
            if (model.caps.get(w).at(new Model.Point(0, e, 0)) > 0) {
                return e;
            }
        }
        return small();
    }

    private int[] held(int w) {
        boolean known = 0 <= w && w < model.workers;
        return someOf(known ? model.caps.get(w) : new Model.Bag());
    }

    /** Mostly a pointstamp with a count, sometimes any, sometimes none at all. */
    private int[] someOf(Model.Bag counts) {
        if (counts.isEmpty() || below(10) == 0) {
            return new int[] {small(), small(), small()};
        }
        List<Model.Point> points = new ArrayList<>(counts.keySet());
        Model.Point p = points.get(below(points.size()));
        return new int[] {p.op(), p.epoch(), p.round()};
    }

    private void sameCounts() {
        for (int index = 0; index < 64; index++) {
            Model.Point p = new Model.Point(index / 16, index / 4 % 4, index % 4);
            CHECK.dueOften(() -> "messages at " + p, real.messages(p.op(), p.epoch(), p.round()), model.msgs.at(p));
            for (int w = 0; w < 4; w++) {
                sameCounts(w, p);
            }
        }
        for (int s = 0; s < 4; s++) {
            for (int r = 0; r < 4; r++) {
                CHECK.dueOften(() -> "queuedBatches", real.queuedBatches(s, r), model.queuedBatches(s, r));
            }
        }
        CHECK.dueOften(() -> "isQuiet", real.isQuiet() ? 1 : 0, model.isQuiet() ? 1 : 0);
    }

    private void sameCounts(int w, Model.Point p) {
        boolean known = w < model.workers;
        int caps = known ? model.caps.get(w).at(p) : 0;
        int pending = known ? model.pending.get(w).at(p) : 0;
        int view = known ? model.view.get(w).at(p) : 0;
        if (view < 0) {
            SEEN.add("view below 0");
        }
        Supplier<String> at = () -> "a count of " + w + " at " + p;
        CHECK.dueOften(at, real.capabilities(w, p.op(), p.epoch(), p.round()), caps);
        CHECK.dueOften(at, real.pendingCount(w, p.op(), p.epoch(), p.round()), pending);
        CHECK.dueOften(at, real.viewCount(w, p.op(), p.epoch(), p.round()), view);
    }

    private void sameConclusions() {
        for (int index = 0; index < 64; index++) {
            int op = index / 16;
            int e = index / 4 % 4;
            int r = index % 4;
            String to = op + ", " + e + ", " + r;
            CHECK.due("couldArrive at " + to, real.couldArrive(op, e, r), model.couldArrive(op, e, r));
            for (int w = 0; w < 4; w++) {
                CHECK.due("canReach of " + w + " to " + to, real.canReach(w, op, e, r), model.canReach(w, op, e, r));
            }
        }
        for (int w = -1; w <= model.workers; w++) {
            for (int op = -1; op <= 4; op++) {
                sameFrontier(w, op);
            }
        }
    }

    private void sameFrontier(int w, int op) {
        met("frontierSize", real.frontierSize(w, op), model.frontierSize(w, op), w, op);
        for (int index = -1; index <= 4; index++) {
            int want = model.frontierElement(w, op, index);
            CHECK.due("frontierElement", real.frontierElement(w, op, index), want);
            if (want >= 0 && want % 16 == 4) {
                SEEN.add("round 4");
            }
        }
    }
}
