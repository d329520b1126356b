/** A sequence of our own for made-up nets, so that each run of the tests is the same. */
final class Made {
    private Made() {
    }

    /** The next number of 0 .. bound - 1; what comes then is kept in the state's first element. */
    static int next(long[] state, int bound) {
        state[0] = state[0] * 6364136223846793005L + 1442695040888963407L;
        return (int) ((state[0] >>> 33) % bound);
    }
}
