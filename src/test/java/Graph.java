/** The document's summary K, copied as it stands there. */
final class Graph {
    static final int NONE = -1;
    static final int[][] K = {
        {0, 0, 0, 0},
        {NONE, 0, 0, 0},
        {NONE, 1, 0, 0},
        {NONE, NONE, NONE, 0},
    };

    private Graph() {
    }

    static boolean couldResultIn(int a, int e1, int r1, int b, int e2, int r2) {
        return K[a][b] != NONE && e1 <= e2 && r1 + K[a][b] <= r2;
    }
}
