import java.util.function.Supplier;

/** Counts the answers of one test that are not as due, and ends its program with 1 if there was one. */
final class Check {
    /** Ints on both sides of 0..3, ints that an index made of them would mistake, and the ends of the int range. */
    static final int[] OUTSIDE = outside(4);

    private int wrong = 0;
    private int asked = 0;

    /** Ints that are not in 0..size-1. */
    static int[] outside(int size) {
        return new int[] {Integer.MIN_VALUE, Integer.MIN_VALUE + 1, -65, -64, -17, -16, -5, -4, -2, -1, size, size + 1,
            5, 16, 17, 64, 65, 256, 1 << 16, 1 << 24, 1 << 26, 1 << 28, 1 << 30, (1 << 30) + 1,
            Integer.MAX_VALUE - 1, Integer.MAX_VALUE};
    }

    void due(String what, Object got, Object want) {
        asked++;
        if (!got.equals(want)) {
            wrong++;
            System.out.println(what + " answered " + got + ", due is " + want);
        }
    }

    /** As above, for many millions of answers: the text is made only where it is needed. */
    void dueOften(Supplier<String> what, int got, int want) {
        asked++;
        if (got != want) {
            due(what.get(), got, want);
        }
    }

    /** Makes one call, and holds its answer and every count that it changed against what is due. */
    void call(ProgressTracker x, String what, Call call, int want, String... changes) {
        int[] before = Counts.of(x);
        int got = call.on(x);
        due(what, got, want);
        due("what " + what + " changed", Counts.difference(before, Counts.of(x)), String.join("; ", changes));
    }

    /**
     * As call, and no channel's content may change. The state is made twice, by the same calls: only a second
     * object can show what would wait in the channels without the call.
     */
    void step(String what, Supplier<ProgressTracker> state, Call call, int want, String... changes) {
        ProgressTracker x = state.get();
        ProgressTracker twin = state.get();
        call(x, what, call, want, changes);
        due("which channels " + what + " changed", Channels.difference(Channels.of(twin), Channels.of(x)), "");
    }

    /** The call is refused, or only asks: no count, no conclusion and no channel may change. */
    void changesNothing(String what, Supplier<ProgressTracker> state, Call call, int want) {
        ProgressTracker x = state.get();
        ProgressTracker twin = state.get();
        call(x, what, call, want);
        due("conclusions after " + what, conclusions(x), conclusions(twin));
        due("which channels " + what + " changed", Channels.difference(Channels.of(twin), Channels.of(x)), "");
    }

    void end() {
        if (asked == 0) {
            wrong++;
            System.out.println("nothing was asked");
        }
        if (wrong != 0) {
            System.out.println(wrong + " of " + asked + " answers are not as due");
            System.exit(1);
        }
    }

    interface Call {
        int on(ProgressTracker x);
    }

    /** What the object answers to the questions that it has to work out. */
    private static String conclusions(ProgressTracker x) {
        StringBuilder text = new StringBuilder().append(x.isQuiet());
        for (int p = 0; p < Stamp.COUNT; p++) {
            text.append(x.couldArrive(Stamp.op(p), Stamp.epoch(p), Stamp.round(p)) ? 'y' : 'n');
            for (int w = 0; w < 4; w++) {
                text.append(x.canReach(w, Stamp.op(p), Stamp.epoch(p), Stamp.round(p)) ? 'y' : 'n');
            }
        }
        for (int i = 0; i < 16; i++) {
            text.append(' ').append(x.frontierSize(i / 4, i % 4));
            for (int index = 0; index < 4; index++) {
                text.append(',').append(x.frontierElement(i / 4, i % 4, index));
            }
        }
        return text.toString();
    }
}
