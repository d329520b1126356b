import java.util.ArrayList;
import java.util.Arrays;
import java.util.Comparator;
import java.util.List;
import java.util.PriorityQueue;

/**
 * The postman's way by its plainest words: step after step over streets, as often as need be,
 * until each has been gone and the way ends where it began. Only for few streets.
 */
final class Walks {
    private static final long FAR = 1L << 50;

    private final int n;
    private final List<int[]> streets;
    private final boolean directed;

    private Walks(int n, List<int[]> streets, boolean directed) {
        this.n = n;
        this.streets = streets;
        this.directed = directed;
    }

    static long overStreets(Plain net) {
        List<int[]> streets = new ArrayList<>();
        for (int a = 0; a < net.n; a++) {
            for (int b = a + 1; b < net.n; b++) {
                if (net.street(a, b) >= 0) {
                    streets.add(new int[] {a, b, (int) net.street(a, b)});
                }
            }
        }
        return new Walks(net.n, streets, false).least();
    }

    static long overWays(Plain net) {
        List<int[]> ways = new ArrayList<>();
        for (int a = 0; a < net.n; a++) {
            for (int b = 0; b < net.n; b++) {
                if (net.way[a][b] >= 0) {
                    ways.add(new int[] {a, b, (int) net.way[a][b]});
                }
            }
        }
        return new Walks(net.n, ways, true).least();
    }

    /** A state is where one is and what one has gone over; the nearest one goes on. */
    private long least() {
        if (streets.isEmpty()) {
            return 0;
        }
        int start = streets.get(0)[0];
        int all = (1 << streets.size()) - 1;
        long[] far = new long[n << streets.size()];
        Arrays.fill(far, FAR);
        far[start] = 0;
        PriorityQueue<long[]> open = new PriorityQueue<>(Comparator.comparingLong(s -> s[0]));
        open.add(new long[] {0, start});
        while (!open.isEmpty()) {
            long[] next = open.remove();
            int state = (int) next[1];
            if (next[0] == far[state]) {
                if (state == start + n * all) {
                    return next[0];
                }
                goOn(state, far, open);
            }
        }
        return -1;
    }

    private void goOn(int state, long[] far, PriorityQueue<long[]> open) {
        int at = state % n;
        int gone = state / n;
        for (int i = 0; i < streets.size(); i++) {
            int[] s = streets.get(i);
            if (s[0] == at || !directed && s[1] == at) {
                int to = s[0] == at ? s[1] : s[0];
                int then = to + n * (gone | 1 << i);
                if (far[state] + s[2] < far[then]) {
                    far[then] = far[state] + s[2];
                    open.add(new long[] {far[then], then});
                }
            }
        }
    }
}
