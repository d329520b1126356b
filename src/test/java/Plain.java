import java.util.ArrayList;
import java.util.Arrays;
import java.util.Comparator;
import java.util.List;

/** The document's words by the plainest means: everything is tried, nothing is clever. */
final class Plain {
    private static final long FAR = 1L << 50;

    final int n;
    final long[][] way;
    int bestRound = 0;
    List<int[]> pairs = new ArrayList<>();

    Plain(int n) {
        this.n = n;
        way = new long[n][n];
        for (long[] row : way) {
            Arrays.fill(row, -1);
        }
    }

    void way(int a, int b, long t) {
        if (a != b) {
            way[a][b] = t >= 0 && t <= 1000000 ? t : -1;
        }
    }

    long street(int a, int b) {
        if (way[a][b] < 0) {
            return way[b][a];
        }
        return way[b][a] < 0 ? way[a][b] : Math.min(way[a][b], way[b][a]);
    }

    long tree(int rounds) {
        bestRound = 0;
        long[] weight = new long[n];
        long best = Long.MIN_VALUE;
        int[] steps = {16, 8, 4, 2};
        for (int round = 1; round <= Math.max(1, Math.min(50, rounds)); round++) {
            List<int[]> tree = linkedTree(weight);
            if (tree == null) {
                return -1;
            }
            long worth = 0;
            int[] degree = new int[n];
            for (int[] e : tree) {
                worth += price(e, weight);
                degree[e[0]]++;
                degree[e[1]]++;
            }
            for (long w : weight) {
                worth -= 2 * w;
            }
            if (worth > best) {
                best = worth;
                bestRound = round;
            }
            int step = round > 16 ? 1 : steps[(round - 1) / 4];
            for (int a = 0; a < n; a++) {
                weight[a] += (degree[a] - 2L) * step;
            }
        }
        return best < 0 ? 0 : best / 2 + best % 2;
    }

    private long price(int[] e, long[] weight) {
        return 2 * street(e[0], e[1]) + weight[e[0]] + weight[e[1]];
    }

    private List<int[]> linkedTree(long[] weight) {
        List<int[]> edges = new ArrayList<>();
        for (int a = 0; a < n; a++) {
            for (int b = a + 1; b < n; b++) {
                if (street(a, b) >= 0) {
                    edges.add(new int[] {a, b});
                }
            }
        }
        edges.sort(Comparator.<int[]>comparingLong(e -> price(e, weight))
                .thenComparingInt(e -> e[0]).thenComparingInt(e -> e[1]));
        List<int[]> taken = new ArrayList<>();
        int[] root = new int[n];
        Arrays.setAll(root, i -> i);
        int atZero = 0;
        for (int[] e : edges) {
            if (e[0] == 0) {
                if (atZero < 2) {
                    atZero++;
                    taken.add(e);
                }
            } else if (find(root, e[0]) != find(root, e[1])) {
                root[find(root, e[0])] = find(root, e[1]);
                taken.add(e);
            }
        }
        return taken.size() == n && atZero == 2 ? taken : null;
    }

    private static int find(int[] root, int a) {
        return root[a] == a ? a : find(root, root[a]);
    }

    long assign() {
        long[] least = new long[1 << n];
        Arrays.fill(least, FAR);
        least[0] = 0;
        for (int set = 0; set < 1 << n; set++) {
            int from = Integer.bitCount(set);
            for (int to = 0; to < n && from < n; to++) {
                if ((set >> to & 1) == 0 && from != to && way[from][to] >= 0) {
                    int more = set | 1 << to;
                    least[more] = Math.min(least[more], least[set] + way[from][to]);
                }
            }
        }
        return least[(1 << n) - 1] >= FAR ? -1 : least[(1 << n) - 1];
    }

    long cut(int i, int j) {
        if (i < 0 || j < 0 || i >= n || j >= n || i == j) {
            return -1;
        }
        long least = FAR;
        for (int side = 0; side < 1 << n; side++) {
            if ((side >> i & 1) == 1 && (side >> j & 1) == 0) {
                long sum = 0;
                for (int a = 0; a < n; a++) {
                    for (int b = 0; b < n; b++) {
                        if ((side >> a & 1) == 1 && (side >> b & 1) == 0) {
                            sum += Math.max(0, street(a, b));
                        }
                    }
                }
                least = Math.min(least, sum);
            }
        }
        return least;
    }

    long[][] shortest(boolean directed) {
        long[][] d = new long[n][n];
        for (int a = 0; a < n; a++) {
            for (int b = 0; b < n; b++) {
                long t = directed ? way[a][b] : street(a, b);
                d[a][b] = a == b ? 0 : t < 0 ? FAR : t;
            }
        }
        for (int turn = 0; turn < n; turn++) {
            for (int a = 0; a < n; a++) {
                for (int b = 0; b < n; b++) {
                    for (int c = 0; c < n; c++) {
                        d[a][b] = Math.min(d[a][b], d[a][c] + d[c][b]);
                    }
                }
            }
        }
        return d;
    }

    private boolean joined(long[][] d) {
        for (int a = 0; a < n; a++) {
            for (int b = 0; b < n; b++) {
                if (hasStreet(a) && hasStreet(b) && d[a][b] >= FAR) {
                    return false;
                }
            }
        }
        return true;
    }

    private boolean hasStreet(int a) {
        for (int b = 0; b < n; b++) {
            if (b != a && street(a, b) >= 0) {
                return true;
            }
        }
        return false;
    }

    long allStreets() {
        long sum = 0;
        for (int a = 0; a < n; a++) {
            for (int b = a + 1; b < n; b++) {
                sum += Math.max(0, street(a, b));
            }
        }
        return sum;
    }

    /** The places of odd degree, as bits. */
    int oddPlaces() {
        int odd = 0;
        for (int a = 0; a < n; a++) {
            for (int b = 0; b < n; b++) {
                odd ^= a != b && street(a, b) >= 0 ? 1 << a : 0;
            }
        }
        return odd;
    }

    long postmanOverStreets() {
        long[][] d = shortest(false);
        if (!joined(d)) {
            return -1;
        }
        long sum = 0;
        List<Integer> odd = new ArrayList<>();
        for (int a = 0; a < n; a++) {
            int degree = 0;
            for (int b = 0; b < n; b++) {
                if (a != b && street(a, b) >= 0) {
                    degree++;
                    sum += a < b ? street(a, b) : 0;
                }
            }
            if (degree % 2 == 1) {
                odd.add(a);
            }
        }
        bestSum = FAR;
        tryPairs(d, odd, new ArrayList<>(), 0);
        return sum + bestSum;
    }

    private long bestSum;

    /** Tries them in the order in which they are preferred, and keeps the first of equals. */
    private void tryPairs(long[][] d, List<Integer> left, List<int[]> made, long sum) {
        if (left.isEmpty()) {
            if (sum < bestSum) {
                bestSum = sum;
                pairs = new ArrayList<>(made);
            }
            return;
        }
        for (int i = 1; i < left.size(); i++) {
            List<Integer> rest = new ArrayList<>(left);
            int other = rest.remove(i);
            int first = rest.remove(0);
            made.add(new int[] {first, other});
            tryPairs(d, rest, made, sum + d[first][other]);
            made.remove(made.size() - 1);
        }
    }

    long postmanOverWays() {
        long[][] d = shortest(true);
        if (!joined(d)) {
            return -1;
        }
        long sum = 0;
        int[] surplus = new int[n];
        for (int a = 0; a < n; a++) {
            for (int b = 0; b < n; b++) {
                if (a != b && way[a][b] >= 0) {
                    sum += way[a][b];
                    surplus[a]--;
                    surplus[b]++;
                }
            }
        }
        List<Integer> from = new ArrayList<>();
        for (int a = 0; a < n; a++) {
            for (int k = 0; k < surplus[a]; k++) {
                from.add(a);
            }
        }
        return sum + leastTrips(d, from, surplus);
    }

    /**
     * Tries all ends for each trip. What matters of those made before is how many ended at each
     * place: these numbers, as digits, are where the least sum stands.
     */
    private long leastTrips(long[][] d, List<Integer> from, int[] surplus) {
        int[] unit = new int[n];
        int states = 1;
        for (int a = 0; a < n; a++) {
            unit[a] = states;
            states *= 1 + Math.max(0, -surplus[a]);
        }
        long[] least = new long[states];
        Arrays.fill(least, FAR);
        least[0] = 0;
        for (int state = 0; state < states - 1; state++) {
            int made = 0;
            for (int a = 0; a < n; a++) {
                made += ended(state, a, unit, surplus);
            }
            for (int a = 0; a < n; a++) {
                if (ended(state, a, unit, surplus) < -surplus[a]) {
                    int more = state + unit[a];
                    least[more] = Math.min(least[more], least[state] + d[from.get(made)][a]);
                }
            }
        }
        return least[states - 1];
    }

    private static int ended(int state, int a, int[] unit, int[] surplus) {
        return state / unit[a] % (1 + Math.max(0, -surplus[a]));
    }

    long greatest() {
        int kept = bestRound;
        long t = tree(50);
        bestRound = kept;
        long s = assign();
        return t < 0 || s < 0 ? -1 : Math.max(t, s);
    }

    /** Only where every way is there. */
    long shortestRound() {
        List<Integer> left = new ArrayList<>();
        for (int a = 1; a < n; a++) {
            left.add(a);
        }
        return shortestRest(0, left);
    }

    private long shortestRest(int at, List<Integer> left) {
        if (left.isEmpty()) {
            return way[at][0];
        }
        long shortest = FAR;
        for (int i = 0; i < left.size(); i++) {
            List<Integer> rest = new ArrayList<>(left);
            int next = rest.remove(i);
            shortest = Math.min(shortest, way[at][next] + shortestRest(next, rest));
        }
        return shortest;
    }

    boolean certificate(int p) {
        long rows = 1;
        for (int k = 2; k < n; k++) {
            rows *= k;
        }
        long index = (p & 0x7fffffffL) % rows;
        List<Integer> left = new ArrayList<>();
        for (int a = 1; a < n; a++) {
            left.add(a);
        }
        long length = 0;
        int at = 0;
        while (!left.isEmpty()) {
            rows /= left.size();
            int next = left.remove((int) (index / rows));
            index %= rows;
            if (way[at][next] < 0) {
                return false;
            }
            length += way[at][next];
            at = next;
        }
        if (way[at][0] < 0) {
            return false;
        }
        int kept = bestRound;
        long t = tree(50);
        bestRound = kept;
        return length + way[at][0] >= Math.max(t, assign());
    }
}
