/** A sequence of our own for made-up nets, so that each run of the tests is the same. */
final class Made {
    private Made() {
    }

    /** The same ways, told to the class and to the plain reading of the document. */
    static final class Net {
        final RoundBounds x;
        final Plain plain;

        Net(int n) {
            x = new RoundBounds(n);
            plain = new Plain(n);
        }

        void way(int a, int b, long t) {
            x.way(a, b, t);
            plain.way(a, b, t);
        }
    }

    /** The next number of 0 .. bound - 1; what comes then is kept in the state's first element. */
    static int next(long[] state, int bound) {
        state[0] = state[0] * 6364136223846793005L + 1442695040888963407L;
        return (int) ((state[0] >>> 33) % bound);
    }

    /** So many of a hundred ways are there; short ones, so that many are alike, or long ones. */
    static Net net(int seed, int n, int percent) {
        long[] state = {seed * 1000003L + n};
        int[] longest = {3, 30, 1000, 1000000};
        int bound = longest[next(state, 4)] + 1;
        Net net = new Net(n);
        for (int a = 0; a < n; a++) {
            for (int b = 0; b < n; b++) {
                if (next(state, 100) < percent) {
                    net.way(a, b, next(state, bound));
                }
            }
        }
        return net;
    }

    /** So few ways, of which each goes on from where one has come to, and some lead back. */
    static Net few(int seed, int n, int ways) {
        long[] state = {seed * 1000003L + ways};
        Net net = new Net(n);
        int at = next(state, n);
        for (int i = 0; i < ways; i++) {
            int to = next(state, n);
            net.way(at, to, next(state, 12));
            if (next(state, 3) == 0) {
                net.way(to, at, next(state, 12));
            }
            at = to;
        }
        return net;
    }
}
