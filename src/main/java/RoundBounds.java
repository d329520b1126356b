import java.util.Arrays;

/**
 * Bounds below rounds: trees with one link more and weights that move, the cheapest choice of a
 * way out of each place, the least cuts, and the postman's way over all streets.
 */
public final class RoundBounds {
    public static final int NONE = -1;

    private static final int LEAST_PLACES = 3;
    private static final int MOST_PLACES = 12;
    private static final long LONGEST_WAY = 1000000L;
    private static final int MOST_ROUNDS = 50;
    private static final long THOUSAND = 1000L;
    private static final int WITHOUT_SIGN = 0x7fffffff;

    private final Net net;
    private final LinkedTrees trees;
    private final Assignment assignment;
    private final LeastCut leastCut;
    private final StreetPost streetPost;
    private final WayPost wayPost;
    private final int[] row;
    /** Kept here and not in the trees, since what others ask trees for does not count. */
    private int roundOfBest;

    public RoundBounds(int stops) {
        int n = Math.max(LEAST_PLACES, Math.min(MOST_PLACES, stops));
        net = new Net(n);
        trees = new LinkedTrees(net);
        assignment = new Assignment(net);
        leastCut = new LeastCut(net);
        streetPost = new StreetPost(net);
        wayPost = new WayPost(net);
        row = new int[n];
        roundOfBest = 0;
    }

    public void way(int a, int b, long t) throws ArrayIndexOutOfBoundsException {
        if (!net.has(a) || !net.has(b)) {
            throw new ArrayIndexOutOfBoundsException("no such place");
        }
        if (a != b) {
            net.tell(a, b, t < 0 || t > LONGEST_WAY ? NONE : (int) t);
        }
    }

    public long tree(int rounds) {
        long bound = trees.bound(Math.max(1, Math.min(MOST_ROUNDS, rounds)));
        roundOfBest = trees.bestRound;
        return bound;
    }

    public int rounds() {
        return roundOfBest;
    }

    public long assign() {
        return assignment.leastSum();
    }

    public long cut(int i, int what) {
        if (!net.has(i) || !net.has(what) || i == what) {
            return NONE;
        }
        return leastCut.width(i, what);
    }

    public long postman(boolean directed) {
        return directed ? wayPost.leastWay() : streetPost.leastWay();
    }

    public int pair(int i, int side) {
        return streetPost.member(i, side);
    }

    public long greatest() {
        long byTrees = trees.bound(MOST_ROUNDS);
        long byAssignment = assignment.leastSum();
        if (byTrees == NONE || byAssignment == NONE) {
            return NONE;
        }
        return Math.max(byTrees, byAssignment);
    }

    public long linear(int side) throws ArithmeticException {
        long bound = greatest();
        if (bound == NONE) {
            return NONE;
        }
        if (side == 0) {
            throw new ArithmeticException("side is 0");
        }
        return THOUSAND * bound / side;
    }

    public boolean certificate(int p) {
        pickRow(p & WITHOUT_SIGN);
        long length = lengthOfRow();
        return length != NONE
                && length >= trees.bound(MOST_ROUNDS)
                && length >= assignment.leastSum();
    }

    /**
     * The number's digits to the bases 1, 2, .. n - 1 say which of the places still left comes
     * next, the last of the row first; what is left of the number above them is a multiple of
     * (n - 1)!, so that dropping it is the modulo.
     */
    private void pickRow(int number) {
        int n = row.length;
        int rest = number;
        for (int at = n - 1; at >= 1; at--) {
            int base = n - at;
            row[at] = 1 + rest % base;
            rest = rest / base;
            for (int later = at + 1; later < n; later++) {
                if (row[later] >= row[at]) {
                    row[later]++;
                }
            }
        }
        row[0] = 0;
    }

    private long lengthOfRow() {
        int n = row.length;
        long sum = 0;
        for (int at = 0; at < n; at++) {
            int next = at + 1 < n ? row[at + 1] : row[0];
            int length = net.ways[row[at]][next];
            if (length == NONE) {
                return NONE;
            }
            sum += length;
        }
        return sum;
    }

    /** The places with their ways and the streets that come of them. */
    private static final class Net {
        private final int n;
        private final int[][] ways;
        /** The same from both sides; kept beside the ways, since most bounds ask for it alone. */
        private final int[][] streets;

        Net(int n) {
            this.n = n;
            ways = new int[n][n];
            streets = new int[n][n];
            for (int a = 0; a < n; a++) {
                Arrays.fill(ways[a], NONE);
                Arrays.fill(streets[a], NONE);
            }
        }

        boolean has(int place) {
            return place >= 0 && place < n;
        }

        void tell(int a, int b, int length) {
            ways[a][b] = length;
            int street = shorter(length, ways[b][a]);
            streets[a][b] = street;
            streets[b][a] = street;
        }

        private static int shorter(int there, int back) {
            if (there == NONE || back == NONE) {
                return Math.max(there, back);
            }
            return Math.min(there, back);
        }

        boolean streetsHangTogether() {
            int all = placesWithStreets();
            return (reached(streets, all, false) & all) == all;
        }

        boolean waysLeadFromEachToEach() {
            int all = placesWithStreets();
            return (reached(ways, all, false) & reached(ways, all, true) & all) == all;
        }

        private int placesWithStreets() {
            int found = 0;
            for (int a = 0; a < n; a++) {
                for (int b = 0; b < n; b++) {
                    if (streets[a][b] != NONE) {
                        found |= 1 << a;
                    }
                }
            }
            return found;
        }

        /**
         * The places that one comes to from the least of these (backwards: that come to it);
         * none, if these are none, so that a net without streets hangs together.
         */
        private int reached(int[][] links, int places, boolean backwards) {
            int found = places & -places;
            for (int turn = 1; turn < n; turn++) {
                found = spread(links, found, backwards);
            }
            return found;
        }

        private int spread(int[][] links, int from, boolean backwards) {
            int found = from;
            for (int a = 0; a < n; a++) {
                for (int b = 0; b < n; b++) {
                    int start = backwards ? b : a;
                    int end = backwards ? a : b;
                    if (links[a][b] != NONE && (found >> start & 1) != 0) {
                        found |= 1 << end;
                    }
                }
            }
            return found;
        }
    }

    /** Linked trees, round after round, with weights that draw each place to two streets. */
    private static final class LinkedTrees {
        private static final int FIRST_STEP = 16;
        private static final int ROUNDS_OF_A_STEP = 4;

        private final Net net;
        private final int[] weights;
        private final int[] degrees;
        private final int[] pieces;
        private long worth;
        private int bestRound;

        LinkedTrees(Net net) {
            this.net = net;
            weights = new int[net.n];
            degrees = new int[net.n];
            pieces = new int[net.n];
            worth = 0;
            bestRound = 0;
        }

        long bound(int rounds) {
            Arrays.fill(weights, 0);
            bestRound = 0;
            long best = 0;
            for (int round = 1; round <= rounds; round++) {
                // whether there is a tree hangs on no weight: it is so in each round or in none
                if (!makeTree()) {
                    return NONE;
                }
                if (bestRound == 0 || worth > best) {
                    best = worth;
                    bestRound = round;
                }
                moveWeights(stepOf(round));
            }
            return best < 0 ? 0 : (best + 1) / 2;
        }

        private static int stepOf(int round) {
            int halvings = (round - 1) / ROUNDS_OF_A_STEP;
            return halvings < 4 ? FIRST_STEP >> halvings : 1;
        }

        private void moveWeights(int step) {
            for (int a = 0; a < net.n; a++) {
                weights[a] += (degrees[a] - 2) * step;
            }
        }

        private boolean makeTree() {
            worth = 0;
            for (int a = 0; a < net.n; a++) {
                degrees[a] = 0;
                pieces[a] = a;
                worth -= 2L * weights[a];
            }
            for (int joined = 2; joined < net.n; joined++) {
                if (!joinTwoPieces()) {
                    return false;
                }
            }
            int first = cheapestFromPlace0(NONE);
            int second = cheapestFromPlace0(first);
            if (first == NONE || second == NONE) {
                return false;
            }
            take(0, first);
            take(0, second);
            return true;
        }

        /** Goes through the streets by lesser ends, then greater ones: the first of equals wins. */
        private boolean joinTwoPieces() {
            int lesser = NONE;
            int greater = NONE;
            for (int a = 1; a < net.n; a++) {
                for (int b = a + 1; b < net.n; b++) {
                    if (pieces[a] != pieces[b] && net.streets[a][b] != NONE
                            && (lesser == NONE || price(a, b) < price(lesser, greater))) {
                        lesser = a;
                        greater = b;
                    }
                }
            }
            if (lesser == NONE) {
                return false;
            }
            take(lesser, greater);
            uniteWith(pieces[lesser], pieces[greater]);
            return true;
        }

        private void uniteWith(int kept, int given) {
            for (int a = 0; a < net.n; a++) {
                if (pieces[a] == given) {
                    pieces[a] = kept;
                }
            }
        }

        private int cheapestFromPlace0(int but) {
            int found = NONE;
            for (int a = 1; a < net.n; a++) {
                if (a != but && net.streets[0][a] != NONE
                        && (found == NONE || price(0, a) < price(0, found))) {
                    found = a;
                }
            }
            return found;
        }

        private void take(int a, int b) {
            worth += price(a, b);
            degrees[a]++;
            degrees[b]++;
        }

        private long price(int a, int b) {
            return 2L * net.streets[a][b] + weights[a] + weights[b];
        }
    }

    /**
     * The cheapest choice of a next place for each, by the Hungarian method: rows (places) and
     * columns (their next ones) have potentials, and place after place is brought in along the
     * cheapest chain of changes. Both are counted from 1; column 0 stands for the new place.
     */
    private static final class Assignment {
        /** Above the sum of any choice that has all its ways, so that it is taken only at need. */
        private static final long MISSING = 100000000L;
        private static final long FAR = 1000000000000L;

        private final Net net;
        private final long[] rowPotential;
        private final long[] columnPotential;
        private final long[] slack;
        private final int[] rowOf;
        private final int[] columnBefore;
        private final boolean[] done;

        Assignment(Net net) {
            this.net = net;
            int size = net.n + 1;
            rowPotential = new long[size];
            columnPotential = new long[size];
            slack = new long[size];
            rowOf = new int[size];
            columnBefore = new int[size];
            done = new boolean[size];
        }

        long leastSum() {
            Arrays.fill(rowPotential, 0L);
            Arrays.fill(columnPotential, 0L);
            Arrays.fill(rowOf, 0);
            for (int newRow = 1; newRow <= net.n; newRow++) {
                rowOf[0] = newRow;
                changeAlong(findFreeColumn());
            }
            return sumOfChosen();
        }

        private int findFreeColumn() {
            for (int column = 0; column <= net.n; column++) {
                slack[column] = FAR;
                columnBefore[column] = 0;
                done[column] = false;
            }
            int at = 0;
            for (int turn = 0; turn <= net.n && rowOf[at] != 0; turn++) {
                done[at] = true;
                lowerSlackFrom(at);
                at = nearestColumn();
                shiftPotentials(slack[at]);
            }
            return at;
        }

        private void lowerSlackFrom(int at) {
            int from = rowOf[at];
            for (int column = 1; column <= net.n; column++) {
                long left = cost(from, column) - rowPotential[from] - columnPotential[column];
                if (!done[column] && left < slack[column]) {
                    slack[column] = left;
                    columnBefore[column] = at;
                }
            }
        }

        private int nearestColumn() {
            int found = 0;
            for (int column = 1; column <= net.n; column++) {
                if (!done[column] && (found == 0 || slack[column] < slack[found])) {
                    found = column;
                }
            }
            return found;
        }

        private void shiftPotentials(long by) {
            for (int column = 0; column <= net.n; column++) {
                if (done[column]) {
                    rowPotential[rowOf[column]] += by;
                    columnPotential[column] -= by;
                } else {
                    slack[column] -= by;
                }
            }
        }

        private void changeAlong(int freeColumn) {
            int at = freeColumn;
            for (int turn = 0; turn <= net.n && at != 0; turn++) {
                int before = columnBefore[at];
                rowOf[at] = rowOf[before];
                at = before;
            }
        }

        private long sumOfChosen() {
            long sum = 0;
            for (int column = 1; column <= net.n; column++) {
                sum += cost(rowOf[column], column);
            }
            return sum >= MISSING ? NONE : sum;
        }

        /** A place has no way to itself, so it is never its own next one. */
        private long cost(int from, int to) {
            if (from < 1 || from > net.n || to < 1 || to > net.n) {
                return MISSING;
            }
            int length = net.ways[from - 1][to - 1];
            return length == NONE ? MISSING : length;
        }
    }

    /** The least cut is as wide as the most that can flow: it flows along shortest chains. */
    private static final class LeastCut {
        /** Shortest chains fill a street at most n times: far fewer than these. */
        private static final int MOST_CHAINS = 1000000;

        private final Net net;
        private final int[][] room;
        private final int[] queue;
        private final int[] before;

        LeastCut(Net net) {
            this.net = net;
            room = new int[net.n][net.n];
            queue = new int[net.n];
            before = new int[net.n];
        }

        long width(int from, int to) {
            for (int a = 0; a < net.n; a++) {
                for (int b = 0; b < net.n; b++) {
                    room[a][b] = Math.max(0, net.streets[a][b]);
                }
            }
            long sum = 0;
            for (int chain = 0; chain < MOST_CHAINS && findChain(from, to); chain++) {
                sum += fillChain(from, to);
            }
            return sum;
        }

        private boolean findChain(int from, int to) {
            Arrays.fill(before, NONE);
            before[from] = from;
            queue[0] = from;
            int waiting = 1;
            for (int next = 0; next < waiting; next++) {
                int a = queue[next];
                for (int b = 0; b < net.n; b++) {
                    if (before[b] == NONE && room[a][b] > 0 && waiting < net.n) {
                        before[b] = a;
                        queue[waiting] = b;
                        waiting++;
                    }
                }
            }
            return before[to] != NONE;
        }

        private int fillChain(int from, int to) {
            int least = Integer.MAX_VALUE;
            int at = to;
            for (int turn = 0; turn < net.n && at != from; turn++) {
                least = Math.min(least, room[before[at]][at]);
                at = before[at];
            }
            at = to;
            for (int turn = 0; turn < net.n && at != from; turn++) {
                room[before[at]][at] -= least;
                room[at][before[at]] += least;
                at = before[at];
            }
            return least;
        }
    }

    /** The postman's way over streets, and the pairs of places that it joins once more. */
    private static final class StreetPost {
        /** Above every shortest way, and twice it is still an int. */
        private static final int FAR = 500000000;

        private final Net net;
        private final int[][] shortest;
        private final int[] odd;
        private int oddCount;
        /**
         * The least sum for each even set of odd places. Such a set is known by its members but
         * the first one, so half the room is enough: it stands at its bits without the lowest.
         */
        private final int[] leastSums;
        private final int[] pairs;
        private int pairCount;

        StreetPost(Net net) {
            this.net = net;
            shortest = new int[net.n][net.n];
            odd = new int[net.n];
            oddCount = 0;
            leastSums = new int[1 << (net.n - 1)];
            pairs = new int[net.n];
            pairCount = 0;
        }

        int member(int index, int side) {
            if (index < 0 || index >= pairCount || side < 0 || side > 1) {
                return NONE;
            }
            return pairs[2 * index + side];
        }

        long leastWay() {
            if (!net.streetsHangTogether()) {
                return NONE;
            }
            long sum = sumOfStreets();
            findOddPlaces();
            findShortest();
            findLeastSums();
            keepPairs();
            return sum + leastSums[everyOdd() >> 1];
        }

        private long sumOfStreets() {
            long sum = 0;
            for (int a = 0; a < net.n; a++) {
                for (int b = a + 1; b < net.n; b++) {
                    sum += Math.max(0, net.streets[a][b]);
                }
            }
            return sum;
        }

        private void findOddPlaces() {
            oddCount = 0;
            for (int a = 0; a < net.n; a++) {
                int degree = 0;
                for (int b = 0; b < net.n; b++) {
                    if (net.streets[a][b] != NONE) {
                        degree++;
                    }
                }
                if ((degree & 1) != 0) {
                    odd[oddCount] = a;
                    oddCount++;
                }
            }
        }

        private void findShortest() {
            for (int a = 0; a < net.n; a++) {
                for (int b = 0; b < net.n; b++) {
                    shortest[a][b] = net.streets[a][b] == NONE ? FAR : net.streets[a][b];
                }
            }
            for (int over = 0; over < net.n; over++) {
                for (int a = 0; a < net.n; a++) {
                    for (int b = 0; b < net.n; b++) {
                        shortest[a][b] = Math.min(shortest[a][b],
                                shortest[a][over] + shortest[over][b]);
                    }
                }
            }
        }

        private int everyOdd() {
            return (1 << oddCount) - 1;
        }

        private void findLeastSums() {
            leastSums[0] = 0;
            for (int set = 1; set <= everyOdd(); set++) {
                if ((Integer.bitCount(set) & 1) == 0) {
                    leastSums[set >> 1] = sumWith(set, bestPartner(set));
                }
            }
        }

        /** Whom the first of an even set goes with, of equals the least. */
        private int bestPartner(int set) {
            int found = NONE;
            int least = Integer.MAX_VALUE;
            for (int partner = firstOf(set) + 1; partner < oddCount; partner++) {
                if ((set >> partner & 1) != 0 && sumWith(set, partner) < least) {
                    least = sumWith(set, partner);
                    found = partner;
                }
            }
            return found;
        }

        private int sumWith(int set, int partner) {
            int first = firstOf(set);
            if (first >= oddCount || partner < 0 || partner >= oddCount) {
                return 0;
            }
            return shortest[odd[first]][odd[partner]] + leastSums[without(set, partner) >> 1];
        }

        private static int firstOf(int set) {
            return Integer.numberOfTrailingZeros(set);
        }

        private static int without(int set, int partner) {
            return set & ~(1 << firstOf(set)) & ~(1 << partner);
        }

        private void keepPairs() {
            pairCount = 0;
            int left = everyOdd();
            for (int next = 0; next + 1 < oddCount; next += 2) {
                int first = firstOf(left);
                int partner = bestPartner(left);
                if (first >= oddCount || partner == NONE) {
                    break;
                }
                pairs[next] = odd[first];
                pairs[next + 1] = odd[partner];
                pairCount++;
                left = without(left, partner);
            }
        }
    }

    /**
     * The postman's way over ways as they are told: from places to which more come than go, trip
     * after trip leads to places from which more go; each takes the cheapest chain there is now,
     * which may take back a way that an earlier trip has gone.
     */
    private static final class WayPost {
        private static final long FAR = 1000000000000L;

        private final Net net;
        private final int[][] again;
        /** How many more come to a place than go from it. */
        private final int[] surplus;
        private final long[] costs;
        private final int[] before;

        WayPost(Net net) {
            this.net = net;
            again = new int[net.n][net.n];
            surplus = new int[net.n];
            costs = new long[net.n];
            before = new int[net.n];
        }

        long leastWay() {
            if (!net.waysLeadFromEachToEach()) {
                return NONE;
            }
            long sum = goEachOnce();
            // no more trips than ways: each makes one less of the ways that come to a surplus
            int mostTrips = net.n * net.n;
            for (int trip = 0; trip < mostTrips; trip++) {
                findCosts();
                int end = cheapestEnd();
                if (end == NONE) {
                    break;
                }
                sum += costs[end];
                goTo(end);
            }
            return sum;
        }

        private long goEachOnce() {
            Arrays.fill(surplus, 0);
            long sum = 0;
            for (int a = 0; a < net.n; a++) {
                for (int b = 0; b < net.n; b++) {
                    again[a][b] = 0;
                    if (net.ways[a][b] != NONE) {
                        surplus[a]--;
                        surplus[b]++;
                        sum += net.ways[a][b];
                    }
                }
            }
            return sum;
        }

        private void findCosts() {
            for (int a = 0; a < net.n; a++) {
                costs[a] = surplus[a] > 0 ? 0 : FAR;
                before[a] = NONE;
            }
            boolean better = true;
            for (int turn = 0; turn < net.n && better; turn++) {
                better = lowerCosts();
            }
        }

        private boolean lowerCosts() {
            boolean better = false;
            for (int a = 0; a < net.n; a++) {
                for (int b = 0; b < net.n; b++) {
                    if (costs[a] < FAR && costs[a] + costOfStep(a, b) < costs[b]) {
                        costs[b] = costs[a] + costOfStep(a, b);
                        before[b] = a;
                        better = true;
                    }
                }
            }
            return better;
        }

        /** To take a way back is never dearer than to go one, so it comes first. */
        private long costOfStep(int a, int b) {
            if (again[b][a] > 0) {
                return -net.ways[b][a];
            }
            return net.ways[a][b] == NONE ? FAR : net.ways[a][b];
        }

        private int cheapestEnd() {
            int found = NONE;
            for (int a = 0; a < net.n; a++) {
                if (surplus[a] < 0 && costs[a] < FAR
                        && (found == NONE || costs[a] < costs[found])) {
                    found = a;
                }
            }
            return found;
        }

        private void goTo(int end) {
            int at = end;
            for (int turn = 0; turn < net.n && before[at] != NONE; turn++) {
                int from = before[at];
                if (again[at][from] > 0) {
                    again[at][from]--;
                } else {
                    again[from][at]++;
                }
                at = from;
            }
            surplus[at]--;
            surplus[end]++;
        }
    }
}
