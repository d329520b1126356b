/** Many made-up nets, each asked everything, against the plain reading of the document. */
public final class AgainstPlainTest {
    private static final Check CHECK = new Check();
    private static final long[] STATE = {20261115L};

    private AgainstPlainTest() {
    }

    public static void main(String[] args) {
        long[] longest = {1, 3, 40, 1000, 1000000};
        for (int run = 0; run < 600; run++) {
            int n = 3 + run % 7;
            run(run, n, longest[next(5)], 15 + next(86));
        }
        for (int run = 600; run < 640; run++) {
            run(run, 10 + run % 3, longest[next(5)], 10 + next(91));
        }
        CHECK.end();
    }

    private static int next(int bound) {
        return Made.next(STATE, bound);
    }

    private static void run(int run, int n, long longest, int percent) {
        RoundBounds x = new RoundBounds(n);
        Plain plain = new Plain(n);
        boolean bothSides = next(3) == 0;
        // few ways lead back: then the directed postman has many trips to make
        boolean leaning = next(3) == 0;
        for (int a = 0; a < n; a++) {
            for (int b = 0; b < n; b++) {
                if (next(100) < (leaning && a > b ? percent / 4 : percent)) {
                    long t = next((int) longest + 1);
                    x.way(a, b, t);
                    plain.way(a, b, t);
                    if (bothSides) {
                        x.way(b, a, t);
                        plain.way(b, a, t);
                    }
                }
            }
        }
        askAll("run " + run, x, plain);
        for (int change = 0; change < 3; change++) {
            int a = next(n);
            int b = next(n);
            long t = next(3) == 0 ? -1 : next((int) longest + 1);
            x.way(a, b, t);
            plain.way(a, b, t);
            askAll("run " + run + " change " + change, x, plain);
        }
    }

    private static void askAll(String name, RoundBounds x, Plain plain) {
        int n = plain.n;
        CHECK.due(name + " greatest", x.greatest(), plain.greatest());
        CHECK.due(name + " rounds before", x.rounds(), plain.bestRound);
        int rounds = next(56) - 2;
        CHECK.due(name + " tree(" + rounds + ")", x.tree(rounds), plain.tree(rounds));
        CHECK.due(name + " rounds", x.rounds(), plain.bestRound);
        CHECK.due(name + " assign", x.assign(), plain.assign());
        for (int k = 0; k < 4; k++) {
            int i = next(n + 2) - 1;
            int j = next(n + 2) - 1;
            CHECK.due(name + " cut(" + i + ", " + j + ")", x.cut(i, j), plain.cut(i, j));
        }
        CHECK.due(name + " postman(false)", x.postman(false), plain.postmanOverStreets());
        for (int i = 0; i < 7; i++) {
            for (int side = 0; side < 2; side++) {
                long want = i < plain.pairs.size() ? plain.pairs.get(i)[side] : -1;
                CHECK.due(name + " pair(" + i + ", " + side + ")", x.pair(i, side), want);
            }
        }
        CHECK.due(name + " postman(true)", x.postman(true), plain.postmanOverWays());
        askCertificates(name, x, plain);
        int side = 1 + next(1000);
        long bound = plain.greatest();
        CHECK.due(name + " linear", x.linear(side), bound < 0 ? -1 : bound * 1000 / side);
        CHECK.due(name + " linear below 0", x.linear(-side),
                bound < 0 ? -1 : -(bound * 1000 / side));
    }

    private static void askCertificates(String name, RoundBounds x, Plain plain) {
        for (int k = 0; k < 8; k++) {
            int p = next(4) == 0 ? next(Integer.MAX_VALUE) * 2 + next(2) : next(200);
            CHECK.due(name + " certificate(" + p + ")", x.certificate(p), plain.certificate(p));
        }
    }
}
