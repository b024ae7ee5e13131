import java.util.ArrayDeque;
import java.util.ArrayList;
import java.util.Deque;
import java.util.List;
import java.util.Map;
import java.util.SortedSet;
import java.util.TreeMap;
import java.util.TreeSet;

/** The document once more, in the words of the Java library, to hold ProgressTracker against. */
final class Model {
    record Point(int op, int epoch, int round) implements Comparable<Point> {
        @Override
        public int compareTo(Point other) {
            return Integer.compare(op * 16 + epoch * 4 + round, other.op * 16 + other.epoch * 4 + other.round);
        }
    }

    /** Counts by pointstamp; what is not in it is 0. */
    static final class Bag extends TreeMap<Point, Integer> {
        private static final long serialVersionUID = 1L;

        int at(Point p) {
            return getOrDefault(p, 0);
        }

        int total() {
            return values().stream().mapToInt(count -> count).sum();
        }

        Bag with(Point p, int delta) {
            Bag sum = new Bag();
            sum.putAll(this);
            sum.add(p, delta);
            return sum;
        }

        void add(Point p, int delta) {
            if (at(p) + delta == 0) {
                remove(p);
            } else {
                put(p, at(p) + delta);
            }
        }
    }

    private static final int FAR = 1000;
    private static final int[][] EDGES = {{0, 1}, {1, 2}, {2, 1}, {2, 3}};
    private static final int[][] LEAST = leastFeedbacks();

    final int workers;
    final Bag msgs = new Bag();
    final List<Bag> caps = new ArrayList<>();
    final List<Bag> pending = new ArrayList<>();
    final List<Bag> view = new ArrayList<>();
    final List<List<Deque<Bag>>> channels = new ArrayList<>();

    Model(int asked) {
        workers = Math.max(1, Math.min(4, asked));
        for (int w = 0; w < workers; w++) {
            caps.add(new Bag().with(new Point(0, 0, 0), 1));
            pending.add(new Bag());
            view.add(new Bag().with(new Point(0, 0, 0), workers));
            channels.add(new ArrayList<>());
            for (int r = 0; r < workers; r++) {
                channels.get(w).add(new ArrayDeque<>());
            }
        }
    }

    /** The shortest paths, from the edges alone: the document's table isn't looked at. */
    private static int[][] leastFeedbacks() {
        int[][] least = new int[4][4];
        for (int a = 0; a < 4; a++) {
            for (int b = 0; b < 4; b++) {
                least[a][b] = a == b ? 0 : FAR;
            }
            for (int pass = 0; pass < 4; pass++) {
                for (int edge = 0; edge < 4; edge++) {
                    int over = least[a][EDGES[edge][0]] + (edge == 2 ? 1 : 0);
                    least[a][EDGES[edge][1]] = Math.min(least[a][EDGES[edge][1]], over);
                }
            }
        }
        return least;
    }

    private boolean worker(int w) {
        return 0 <= w && w < workers;
    }

    private static boolean small(int... values) {
        for (int value : values) {
            if (value < 0 || value > 3) {
                return false;
            }
        }
        return true;
    }

    int send(int w, int edge, int epoch, int round) {
        if (!worker(w) || !small(edge, epoch, round)) {
            return -1;
        }
        if (caps.get(w).at(new Point(EDGES[edge][0], epoch, round)) == 0) {
            return -2;
        }
        Point to = new Point(EDGES[edge][1], epoch, edge == 2 ? round + 1 : round);
        if (to.round > 3) {
            return -4;
        }
        Bag after = pending.get(w).with(to, 1);
        if (after.size() > 16) {
            return -6;
        }
        msgs.add(to, 1);
        pending.set(w, after);
        return 0;
    }

    int receive(int w, int op, int epoch, int round) {
        if (!worker(w) || !small(op, epoch, round)) {
            return -1;
        }
        Point p = new Point(op, epoch, round);
        if (msgs.at(p) == 0) {
            return -3;
        }
        msgs.add(p, -1);
        caps.get(w).add(p, 1);
        return 0;
    }

    int drop(int w, int op, int epoch, int round) {
        if (!worker(w) || !small(op, epoch, round)) {
            return -1;
        }
        Point p = new Point(op, epoch, round);
        if (caps.get(w).at(p) == 0) {
            return -2;
        }
        Bag after = pending.get(w).with(p, -1);
        if (after.size() > 16) {
            return -6;
        }
        caps.get(w).add(p, -1);
        pending.set(w, after);
        return 0;
    }

    int advanceInput(int w, int epoch) {
        if (!worker(w) || !small(epoch)) {
            return -1;
        }
        Point old = new Point(0, epoch, 0);
        if (caps.get(w).at(old) == 0) {
            return -2;
        }
        if (epoch == 3) {
            return -5;
        }
        Point next = new Point(0, epoch + 1, 0);
        Bag after = pending.get(w).with(old, -1).with(next, 1);
        if (after.size() > 16) {
            return -6;
        }
        caps.get(w).add(old, -1);
        caps.get(w).add(next, 1);
        pending.set(w, after);
        return 0;
    }

    int broadcast(int w) {
        if (!worker(w)) {
            return -1;
        }
        Bag batch = pending.get(w);
        if (batch.isEmpty()) {
            return -8;
        }
        for (Deque<Bag> channel : channels.get(w)) {
            if (channel.stream().mapToInt(Map::size).sum() > 32 - batch.size()) {
                return -7;
            }
        }
        for (Deque<Bag> channel : channels.get(w)) {
            channel.addLast(batch);
        }
        pending.set(w, new Bag());
        return batch.size();
    }

    int deliver(int s, int r) {
        if (!worker(s) || !worker(r)) {
            return -1;
        }
        Bag batch = channels.get(s).get(r).pollFirst();
        if (batch == null) {
            return -8;
        }
        batch.forEach((p, delta) -> view.get(r).add(p, delta));
        return batch.size();
    }

    boolean canReach(int w, int op, int epoch, int round) {
        return worker(w) && small(op, epoch, round) && reaches(view.get(w), op, epoch, round);
    }

    boolean couldArrive(int op, int epoch, int round) {
        if (!small(op, epoch, round)) {
            return false;
        }
        Bag occ = new Bag();
        occ.putAll(msgs);
        caps.forEach(held -> held.forEach(occ::add));
        return reaches(occ, op, epoch, round);
    }

    private static boolean reaches(Bag counts, int op, int epoch, int round) {
        return counts.entrySet().stream().anyMatch(entry -> entry.getValue() > 0
            && entry.getKey().epoch <= epoch && entry.getKey().round + LEAST[entry.getKey().op][op] <= round);
    }

    /** The encoded elements, in increasing epoch. */
    List<Integer> frontier(int w, int op) {
        SortedSet<Integer> times = new TreeSet<>();
        view.get(w).forEach((p, count) -> {
            if (count > 0 && LEAST[p.op][op] < FAR) {
                times.add(p.epoch * 16 + p.round + LEAST[p.op][op]);
            }
        });
        List<Integer> least = new ArrayList<>();
        for (int time : times) {
            boolean hidden = times.stream().anyMatch(other -> other != time
                && other / 16 <= time / 16 && other % 16 <= time % 16);
            if (!hidden) {
                least.add(time);
            }
        }
        return least;
    }

    int frontierSize(int w, int op) {
        return worker(w) && small(op) ? frontier(w, op).size() : 0;
    }

    int frontierElement(int w, int op, int index) {
        if (!worker(w) || !small(op) || index < 0 || index >= frontierSize(w, op)) {
            return -1;
        }
        return frontier(w, op).get(index);
    }

    private int count(List<Bag> counts, int w, int op, int epoch, int round) {
        return worker(w) && small(op, epoch, round) ? counts.get(w).at(new Point(op, epoch, round)) : 0;
    }

    int viewCount(int w, int op, int epoch, int round) {
        return count(view, w, op, epoch, round);
    }

    int pendingCount(int w, int op, int epoch, int round) {
        return count(pending, w, op, epoch, round);
    }

    int capabilities(int w, int op, int epoch, int round) {
        return count(caps, w, op, epoch, round);
    }

    int messages(int op, int epoch, int round) {
        return small(op, epoch, round) ? msgs.at(new Point(op, epoch, round)) : 0;
    }

    int queuedBatches(int s, int r) {
        return worker(s) && worker(r) ? channels.get(s).get(r).size() : 0;
    }

    boolean isQuiet() {
        return pending.stream().allMatch(Map::isEmpty)
            && channels.stream().allMatch(from -> from.stream().allMatch(Deque::isEmpty));
    }
}
