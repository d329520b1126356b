import java.io.IOException;

/** Full runs of 512 calls on one object, each answer against the plain reading of the document. */
public final class FullRunTest {
    private static final int CALLS = 512;
    private static final int KINDS = 12;
    private static final int NONE = RoundBounds.NONE;

    private final Sentences document;
    private final long[] state = {512L};
    private RoundBounds x = new RoundBounds(3);
    private Plain plain = new Plain(3);
    private String name = "";

    private FullRunTest(Sentences document) {
        this.document = document;
    }

    public static void main(String[] args) throws IOException {
        Sentences document = new Sentences(args);
        FullRunTest test = new FullRunTest(document);
        document.run(test::mixedCallsUpTo512);
        document.run(test::theSameCallToTheLast);
        document.run(test::onlyWaysBeforeTheLast);
        document.end();
    }

    /** Each kind of call is once the 512th. */
    private void mixedCallsUpTo512() {
        document.says("What it is", "An object is used for at most 512 calls after it has been "
                + "made");
        int[] stops = {3, 4, 5, 6, 7, 8, 9, 10, 11, 12, Integer.MIN_VALUE, Integer.MAX_VALUE};
        for (int kind = 0; kind < KINDS; kind++) {
            x = new RoundBounds(stops[kind]);
            plain = new Plain(Math.max(3, Math.min(12, stops[kind])));
            for (int call = 1; call <= CALLS; call++) {
                name = "stops " + stops[kind] + ", call " + call + ": ";
                // ways come often, and more so in the beginning
                boolean way = next(100) < (call < 100 ? 70 : 35);
                ask(call == CALLS ? kind : way ? 0 : next(KINDS));
            }
        }
    }

    private int next(int bound) {
        return Made.next(state, bound);
    }

    /** A place, and now and then one that is not there. */
    private int place() {
        int[] outside = {-1, plain.n, Integer.MIN_VALUE, Integer.MAX_VALUE};
        return next(25) == 0 ? outside[next(4)] : next(plain.n);
    }

    private void ask(int kind) {
        switch (kind) {
            case 1:
                int rounds = next(60) - 5;
                document.due(name + "tree(" + rounds + ")", x.tree(rounds), plain.tree(rounds));
                break;
            case 2:
                document.due(name + "rounds()", x.rounds(), plain.bestRound);
                break;
            case 3:
                document.due(name + "assign()", x.assign(), plain.assign());
                break;
            case 4:
                int i = place();
                int what = place();
                document.due(name + "cut(" + i + ", " + what + ")", x.cut(i, what),
                        plain.cut(i, what));
                break;
            case 5:
                document.due(name + "postman(false)", x.postman(false),
                        plain.postmanOverStreets());
                break;
            case 6:
                document.due(name + "postman(true)", x.postman(true), plain.postmanOverWays());
                break;
            case 7:
                askPair();
                break;
            case 8:
                document.due(name + "greatest()", x.greatest(), plain.greatest());
                break;
            case 9:
                askLinear();
                break;
            case 10:
            case 11:
                int p = next(2) == 0 ? next(6) : next(Integer.MAX_VALUE) * 2 + next(2);
                document.due(name + "certificate(" + p + ")", x.certificate(p),
                        plain.certificate(p));
                break;
            default:
                tellWay();
                break;
        }
    }

    private void tellWay() {
        int a = place();
        int b = place();
        long[] odd = {-1, 0, 1000000, 1000001, Long.MIN_VALUE, Long.MAX_VALUE};
        long t = next(8) == 0 ? odd[next(6)] : next(40);
        if (a < 0 || b < 0 || a >= plain.n || b >= plain.n) {
            document.dueThrows(name + "way(" + a + ", " + b + ")", () -> x.way(a, b, t),
                    ArrayIndexOutOfBoundsException.class);
        } else {
            x.way(a, b, t);
            plain.way(a, b, t);
        }
    }

    private void askPair() {
        int i = next(7) - 1;
        int side = next(4) - 1;
        boolean there = i >= 0 && i < plain.pairs.size() && side >= 0 && side <= 1;
        document.due(name + "pair(" + i + ", " + side + ")", x.pair(i, side),
                there ? plain.pairs.get(i)[side] : NONE);
    }

    private void askLinear() {
        int side = next(21) - 10;
        long bound = plain.greatest();
        if (bound != NONE && side == 0) {
            document.dueThrows(name + "linear(0)", () -> x.linear(0), ArithmeticException.class);
        } else {
            document.due(name + "linear(" + side + ")", x.linear(side),
                    bound == NONE ? NONE : 1000 * bound / side);
        }
    }

    /** The dearest net takes 144 calls to tell; all that are left are the same call. */
    private void theSameCallToTheLast() {
        document.says("What it is", "at most 512 calls after it has been made");
        for (int kind = 0; kind < 9; kind++) {
            RoundBounds full = Nets.full(12, 1000000);
            full.postman(false);
            for (int call = 146; call <= CALLS; call++) {
                name = "call " + call + ": ";
                askFull(kind, full, call);
            }
        }
    }

    private void askFull(int kind, RoundBounds full, int call) {
        switch (kind) {
            case 0:
                document.due(name + "tree(50)", full.tree(50), 12000000L);
                break;
            case 1:
                document.due(name + "assign()", full.assign(), 12000000L);
                break;
            case 2:
                document.due(name + "cut(0, 11)", full.cut(0, 11), 11000000L);
                break;
            case 3:
                document.due(name + "postman(false)", full.postman(false), 72000000L);
                break;
            case 4:
                document.due(name + "postman(true)", full.postman(true), 132000000L);
                break;
            case 5:
                document.due(name + "pair(5, 1)", full.pair(5, 1), 11);
                break;
            case 6:
                document.due(name + "certificate(" + call + ")", full.certificate(call), true);
                break;
            case 7:
                document.due(name + "linear(1)", full.linear(1), 12000000000L);
                break;
            default:
                document.dueThrows(name + "linear(0)", () -> full.linear(0),
                        ArithmeticException.class);
                break;
        }
    }

    /** All 132 ways of twelve places, almost four times over: the latest ones count. */
    private void onlyWaysBeforeTheLast() {
        document.says("What it is", "at most 512 calls after it has been made");
        RoundBounds told = new RoundBounds(12);
        for (int call = 0; call < CALLS - 1; call++) {
            int a = call % 132 / 11;
            int b = (a + 1 + call % 11) % 12;
            told.way(a, b, 1 + call / 132);
        }
        // the last time round, 115 of the 132 ways were told: those of places 0 .. 9, five of 10
        document.due("the 512th call: assign()", told.assign(), 4L * 10 + 3 * 2);
    }
}
