/** Pointstamps by their index, op*16 + epoch*4 + round. */
final class Stamp {
    static final int COUNT = 64;

    /** The first pointstamp that is not at SOURCE. */
    static final int FIRST_OF_HEAD = 16;

    private Stamp() {
    }

    static int at(int op, int epoch, int round) {
        return op * 16 + epoch * 4 + round;
    }

    static int op(int p) {
        return p / 16;
    }

    static int epoch(int p) {
        return p / 4 % 4;
    }

    static int round(int p) {
        return p % 4;
    }

    /** SOURCE has capabilities in round 0 only, and messages never: no edge leads there. */
    static boolean canHaveACount(int p) {
        return op(p) != ProgressTracker.SOURCE || round(p) == 0;
    }

    static String name(int p) {
        return "(" + op(p) + "," + epoch(p) + "," + round(p) + ")";
    }
}
