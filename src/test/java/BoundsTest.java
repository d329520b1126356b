import java.io.IOException;

/** The sentences of promises 9, 10 and 11. */
public final class BoundsTest {
    private static final int NONE = RoundBounds.NONE;
    private static final long HANGING_50 = 553;

    private final Sentences document;

    private BoundsTest(Sentences document) {
        this.document = document;
    }

    public static void main(String[] args) throws IOException {
        Sentences document = new Sentences(args);
        BoundsTest test = new BoundsTest(document);
        document.run(test::boundsBelowRounds);
        document.run(test::eachWithWhatShowsIt);
        document.run(test::greatestOfBoth);
        document.run(test::asABoundForRounds);
        document.run(test::with50RoundsAndNow);
        document.run(test::noneWhenOneOfThemIs);
        document.run(test::aThousandTimesThat);
        document.run(test::cutTowards0);
        document.run(test::noneWhenGreatestIs);
        document.run(test::throwsWhenSideIs0);
        document.run(test::aLinearThatThrowsChangesNothing);
        document.run(test::aRoundOfAllPlaces);
        document.run(test::pPicksTheRowFrom0);
        document.run(test::withoutItsSignBit);
        document.run(test::rowsInTheirOrderByPlaces);
        document.run(test::hasAllItsWays);
        document.run(test::notShorterThanBothBounds);
        document.end();
    }

    private void boundsBelowRounds() {
        document.says("What it is", "Bounds below rounds: trees with one link more and weights "
                + "that move, the cheapest choice of a way out of each place, the least cuts, and "
                + "the postman's way over all streets");
        // four streets in a ring: round them it is 36, and twice to and fro it is 30
        RoundBounds x = Nets.of(4, new int[][] {{0, 1, 7}, {1, 2, 10}, {2, 3, 8}, {3, 0, 11},
            {1, 0, 7}, {2, 1, 10}, {3, 2, 8}, {0, 3, 11}});
        document.due("trees with one link more: tree(1)", x.tree(1), 36);
        document.due("weights that move: tree(50)", x.tree(50), 36);
        document.due("the cheapest choice of a way out of each: assign()", x.assign(), 30);
        document.due("the least cut: cut(0, 2)", x.cut(0, 2), 7 + 8);
        document.due("the postman's way: postman(false)", x.postman(false), 36);
        document.due("the postman's way: postman(true)", x.postman(true), 72);
        for (int run = 0; run < 100; run++) {
            Made.Net net = Made.net(run, 3 + run % 6, 100);
            long shortest = net.plain.shortestRound();
            document.due("run " + run + ": tree(50)", net.x.tree(50) <= shortest, true);
            document.due("run " + run + ": assign()", net.x.assign() <= shortest, true);
        }
    }

    /** The round that rounds() tells is enough for the bound; each real round holds it. */
    private void eachWithWhatShowsIt() {
        document.says("What it is", "each with what shows it.");
        for (int run = 0; run < 60; run++) {
            Made.Net net = Made.net(run, 3 + run % 3, 100);
            long bound = net.x.tree(50);
            int best = net.x.rounds();
            document.due("run " + run + ": rounds()", best >= 1 && best <= 50, true);
            document.due("run " + run + ": tree(rounds())", net.x.tree(best), bound);
            document.due("run " + run + ": rounds() of it", net.x.rounds(), best);
            for (int p = 0; p < rowsOf(net.plain.n); p++) {
                document.due("run " + run + ": certificate(" + p + ")", net.x.certificate(p),
                        true);
            }
        }
    }

    private void asABoundForRounds() {
        document.says("Promise 9", "tell now, as a bound for rounds");
        for (int run = 0; run < 100; run++) {
            Made.Net net = Made.net(run, 3 + run % 6, 100);
            long shortest = net.plain.shortestRound();
            document.due("run " + run + ": greatest() is at most " + shortest,
                    net.x.greatest() <= shortest, true);
            document.due("run " + run + ": greatest()", net.x.greatest(), net.plain.greatest());
        }
        document.due("a ring is its own bound", Nets.ring(7, 5).greatest(), 35);
    }

    private void greatestOfBoth() {
        document.says("Promise 9", "The greatest of what tree (with 50 rounds) and assign tell");
        // to and fro is cheap, but the two halves are far apart
        RoundBounds halves = Nets.of(4, new int[][] {{0, 1, 1}, {1, 0, 1}, {2, 3, 1}, {3, 2, 1},
            {1, 2, 50}, {3, 0, 50}});
        document.due("the tree's is greater: assign()", halves.assign(), 4);
        document.due("the tree's is greater: tree(50)", halves.tree(50), 102);
        document.due("the tree's is greater", halves.greatest(), 102);
        // streets of 1 from which no round can be made, as no way leads on
        RoundBounds oneWay = Nets.ring(4, 10);
        oneWay.way(0, 2, 1);
        oneWay.way(1, 3, 1);
        document.due("assign's is greater: assign()", oneWay.assign(), 40);
        document.due("assign's is greater: tree(50)", oneWay.tree(50) < 40, true);
        document.due("assign's is greater", oneWay.greatest(), 40);
        document.due("both are the same", Nets.ring(5, 8).greatest(), 40);
        document.due("both are 0", Nets.ring(12, 0).greatest(), 0);
        document.due("both are the greatest", Nets.ring(12, 1000000).greatest(), 12000000L);
    }

    private void with50RoundsAndNow() {
        document.says("Promise 9", "(with 50 rounds) and assign tell now");
        RoundBounds x = Nets.hanging();
        document.due("before any tree()", x.greatest(), HANGING_50);
        x.tree(1);
        document.due("after tree(1)", x.greatest(), HANGING_50);
        document.due("assign() is less", x.assign(), 400);
        RoundBounds y = Nets.ring(3, 5);
        document.due("a ring", y.greatest(), 15);
        y.way(1, 2, 6);
        document.due("a way was made longer", y.greatest(), 16);
        y.way(1, 2, -1);
        document.due("a way was taken", y.greatest(), NONE);
        y.way(1, 2, 0);
        document.due("a way was made again", y.greatest(), 10);
    }

    private void noneWhenOneOfThemIs() {
        document.says("Promise 9", "NONE when one of them is.");
        RoundBounds noTree = Nets.of(4, new int[][] {{0, 1, 1}, {1, 0, 1}, {2, 3, 1}, {3, 2, 1}});
        document.due("an assignment, but no tree: assign()", noTree.assign(), 4);
        document.due("an assignment, but no tree: tree(50)", noTree.tree(50), NONE);
        document.due("an assignment, but no tree", noTree.greatest(), NONE);
        RoundBounds noNext = Nets.of(4, new int[][] {{0, 1, 1}, {0, 2, 1}, {1, 2, 1}, {2, 3, 1}});
        document.due("a tree, but no assignment: assign()", noNext.assign(), NONE);
        document.due("a tree, but no assignment: tree(1)", noNext.tree(1), 4);
        document.due("a tree, but no assignment", noNext.greatest(), NONE);
        for (int n = 3; n <= 12; n++) {
            document.due(n + " places, neither", new RoundBounds(n).greatest(), NONE);
        }
    }

    private void aThousandTimesThat() {
        document.says("Promise 10", "A thousand times that, divided by side");
        RoundBounds x = Nets.ring(3, 7);
        document.due("linear(1)", x.linear(1), 21000);
        document.due("linear(1000)", x.linear(1000), 21);
        document.due("linear(8)", x.linear(8), 2625);
        document.due("linear(-1)", x.linear(-1), -21000);
        RoundBounds longest = Nets.ring(12, 1000000);
        document.due("the longest, linear(1)", longest.linear(1), 12000000000L);
        document.due("the longest, linear(-1)", longest.linear(-1), -12000000000L);
        RoundBounds zero = Nets.ring(3, 0);
        int[] sides = {1, -1, 7, Integer.MAX_VALUE, Integer.MIN_VALUE};
        for (int side : sides) {
            document.due("of 0, linear(" + side + ")", zero.linear(side), 0);
        }
    }

    private void cutTowards0() {
        document.says("Promise 10", "(cut towards 0)");
        RoundBounds x = Nets.ring(3, 7);
        document.due("linear(11), 1909.09", x.linear(11), 1909);
        document.due("linear(-11), -1909.09", x.linear(-11), -1909);
        document.due("linear(13), 1615.38", x.linear(13), 1615);
        document.due("linear(22), 954.54", x.linear(22), 954);
        document.due("linear(-22), -954.54", x.linear(-22), -954);
        document.due("linear(20999)", x.linear(20999), 1);
        document.due("linear(21000)", x.linear(21000), 1);
        document.due("linear(21001)", x.linear(21001), 0);
        document.due("linear(-20999)", x.linear(-20999), -1);
        document.due("linear(-21000)", x.linear(-21000), -1);
        document.due("linear(-21001)", x.linear(-21001), 0);
        document.due("linear(max)", x.linear(Integer.MAX_VALUE), 0);
        document.due("linear(min)", x.linear(Integer.MIN_VALUE), 0);
        RoundBounds longest = Nets.ring(12, 1000000);
        document.due("the longest, linear(max), 5.58", longest.linear(Integer.MAX_VALUE), 5);
        document.due("the longest, linear(min), -5.58", longest.linear(Integer.MIN_VALUE), -5);
    }

    private void noneWhenGreatestIs() {
        document.says("Promise 10", "NONE when greatest is.");
        RoundBounds[] none = {
            new RoundBounds(3), new RoundBounds(12),
            Nets.of(4, new int[][] {{0, 1, 1}, {1, 0, 1}, {2, 3, 1}, {3, 2, 1}}),
            Nets.of(4, new int[][] {{0, 1, 1}, {0, 2, 1}, {1, 2, 1}, {2, 3, 1}})};
        int[] sides = {0, 1, -1, 2, -2, 1000, -1000, Integer.MAX_VALUE, Integer.MIN_VALUE};
        for (int i = 0; i < none.length; i++) {
            for (int side : sides) {
                document.due("net " + i + ", linear(" + side + ")", none[i].linear(side), NONE);
            }
        }
    }

    private void throwsWhenSideIs0() {
        document.says("Promise 10", "ArithmeticException when side is 0 (and it is not NONE).");
        for (int n = 3; n <= 12; n++) {
            RoundBounds x = Nets.ring(n, 7);
            document.dueThrows("a ring of " + n, () -> x.linear(0), ArithmeticException.class);
            RoundBounds zero = Nets.ring(n, 0);
            document.dueThrows("a ring of no length", () -> zero.linear(0),
                    ArithmeticException.class);
            x.way(0, 1, -1);
            document.due("a broken ring of " + n, x.linear(0), NONE);
            x.way(0, 1, 7);
            document.dueThrows("mended, of " + n, () -> x.linear(0), ArithmeticException.class);
        }
    }

    private void aLinearThatThrowsChangesNothing() {
        document.says("Terms", "A call that throws changes nothing.");
        RoundBounds x = Nets.hanging();
        document.dueThrows("linear(0)", () -> x.linear(0), ArithmeticException.class);
        document.due("rounds() before any tree()", x.rounds(), 0);
        document.due("pairs before any postman(false)", Nets.pairs(x), "");
        x.tree(7);
        x.postman(false);
        String before = Nets.answers(x, 4);
        document.dueThrows("linear(0)", () -> x.linear(0), ArithmeticException.class);
        document.due("all answers", Nets.answers(x, 4), before);
        document.due("rounds()", x.rounds(), 7);
        document.due("pairs", Nets.pairs(x), "1-3");
    }

    private static int rowsOf(int n) {
        int rows = 1;
        for (int k = 2; k < n; k++) {
            rows *= k;
        }
        return rows;
    }

    /** Only the ways of one row are there: it begins with 0, and counting on from the first. */
    private static RoundBounds ofRow(int n, int index) {
        int[] row = new int[n];
        for (int a = 0; a < n; a++) {
            row[a] = a;
        }
        int rows = rowsOf(n);
        int rest = index;
        for (int at = 1; at < n; at++) {
            rows /= n - at;
            int from = at + rest / rows;
            rest %= rows;
            int taken = row[from];
            System.arraycopy(row, at, row, at + 1, from - at);
            row[at] = taken;
        }
        RoundBounds x = new RoundBounds(n);
        for (int at = 0; at < n; at++) {
            x.way(row[at], row[(at + 1) % n], 3);
        }
        return x;
    }

    private void duePicked(RoundBounds x, int n, int index, int p) {
        int picked = (p & Integer.MAX_VALUE) % rowsOf(n);
        document.due(n + " places, row " + index + ", certificate(" + p + ")", x.certificate(p),
                picked == index);
    }

    private void aRoundOfAllPlaces() {
        document.says("Promise 11", "Whether a round of all places in a row that is told by p");
        for (int n = 3; n <= 12; n++) {
            document.due(n + " places: a ring", Nets.ring(n, 5).certificate(0), true);
            for (int left = 0; left < n; left++) {
                RoundBounds x = Nets.full(n, 5);
                for (int a = 0; a < n; a++) {
                    x.way(a, left, -1);
                    x.way(left, a, -1);
                }
                for (int p = 0; p < 30; p++) {
                    document.due(n + " places: " + left + " is left out, certificate(" + p + ")",
                            x.certificate(p), false);
                }
            }
            RoundBounds open = Nets.ring(n, 5);
            open.way(n - 1, 0, -1);
            document.due(n + " places: no way home", open.certificate(0), false);
        }
    }

    private void pPicksTheRowFrom0() {
        document.says("Promise 11", "p modulo (n - 1)! picks the row, from 0");
        RoundBounds first = Nets.ring(4, 3);
        document.due("4 places, row 0: certificate(0)", first.certificate(0), true);
        document.due("4 places, row 0: certificate(1)", first.certificate(1), false);
        document.due("4 places, row 0: certificate(5)", first.certificate(5), false);
        document.due("4 places, row 0: certificate(6)", first.certificate(6), true);
        document.due("4 places, row 0: certificate(7)", first.certificate(7), false);
        document.due("4 places, row 0: certificate(12)", first.certificate(12), true);
        document.due("4 places, row 0: certificate(24)", first.certificate(24), true);
        for (int n = 3; n <= 12; n++) {
            int rows = rowsOf(n);
            int most = Integer.MAX_VALUE / rows * rows;
            int[] indexes = {0, 1, rows / 2, rows - 2, rows - 1, Integer.MAX_VALUE % rows};
            for (int index : indexes) {
                RoundBounds x = ofRow(n, index);
                int[] near = {0, rows - 1, rows, rows + 1, index, index + rows, 2 * rows, most - 1,
                    most, most + Math.min(index, Integer.MAX_VALUE - most), Integer.MAX_VALUE};
                for (int p : near) {
                    for (int by = -1; by <= 1; by++) {
                        duePicked(x, n, index, p + by);
                    }
                }
            }
        }
    }

    private void withoutItsSignBit() {
        document.says("Promise 11", "(without its sign bit, p modulo (n - 1)!");
        RoundBounds first = Nets.ring(4, 3);
        // 2147483648 is 2 modulo 6, and -1 without its sign bit is 1 modulo 6
        document.due("4 places, row 0: certificate(min)",
                first.certificate(Integer.MIN_VALUE), true);
        document.due("4 places, row 0: certificate(min + 1)",
                first.certificate(Integer.MIN_VALUE + 1), false);
        document.due("4 places, row 0: certificate(min + 6)",
                first.certificate(Integer.MIN_VALUE + 6), true);
        document.due("4 places, row 0: certificate(-1)", first.certificate(-1), false);
        document.due("4 places, row 0: certificate(-2)", first.certificate(-2), true);
        document.due("4 places, row 0: certificate(-6)", first.certificate(-6), false);
        for (int n = 3; n <= 12; n++) {
            int rows = rowsOf(n);
            int[] indexes = {0, 1, rows / 2, rows - 1, Integer.MAX_VALUE % rows};
            for (int index : indexes) {
                RoundBounds x = ofRow(n, index);
                int[] below = {-1, -2, -3, -rows, -rows - 1, 1 - rows, -index, -index - 1,
                    index | Integer.MIN_VALUE, index + rows | Integer.MIN_VALUE,
                    rows | Integer.MIN_VALUE, rows - 1 | Integer.MIN_VALUE, Integer.MIN_VALUE,
                    Integer.MIN_VALUE + 1};
                for (int p : below) {
                    duePicked(x, n, index, p);
                }
            }
        }
    }

    private void rowsInTheirOrderByPlaces() {
        document.says("Promise 11", "in their order by places, of those that begin with place 0");
        int[][] ofFour = {{1, 2, 3}, {1, 3, 2}, {2, 1, 3}, {2, 3, 1}, {3, 1, 2}, {3, 2, 1}};
        for (int index = 0; index < 6; index++) {
            int[] row = ofFour[index];
            RoundBounds x = Nets.of(4, new int[][] {{0, row[0], 1}, {row[0], row[1], 1},
                {row[1], row[2], 1}, {row[2], 0, 1}});
            for (int p = 0; p < 6; p++) {
                document.due("row " + index + " of four, certificate(" + p + ")",
                        x.certificate(p), p == index);
            }
        }
        for (int n = 3; n <= 6; n++) {
            int rows = rowsOf(n);
            for (int index = 0; index < rows; index++) {
                RoundBounds x = ofRow(n, index);
                for (int p = 0; p < rows; p++) {
                    duePicked(x, n, index, p);
                }
            }
        }
        for (int n = 3; n <= 12; n++) {
            RoundBounds back = new RoundBounds(n);
            for (int a = 0; a < n; a++) {
                back.way((a + 1) % n, a, 2);
            }
            document.due("the last row of " + n + " places goes down",
                    back.certificate(rowsOf(n) - 1), true);
            document.due("the first row of " + n + " places goes up", back.certificate(0), false);
        }
    }

    private void hasAllItsWays() {
        document.says("Promise 11", "has all its ways");
        for (int n = 3; n <= 12; n++) {
            document.due(n + " places without a way", new RoundBounds(n).certificate(0), false);
            RoundBounds x = Nets.full(n, 5);
            for (int a = 0; a < n; a++) {
                int next = (a + 1) % n;
                document.due(n + " places, all ways", x.certificate(0), true);
                x.way(a, next, -1);
                document.due(n + " places, all but " + a + " to " + next, x.certificate(0), false);
                x.way(a, next, 0);
                document.due(n + " places, one of length 0", x.certificate(0), true);
                x.way(next, a, -1);
                document.due(n + " places, the way back is not needed", x.certificate(0), true);
                x.way(a, next, 5);
                x.way(next, a, 5);
            }
            RoundBounds streets = new RoundBounds(n);
            for (int a = 0; a < n; a++) {
                streets.way((a + 1) % n, a, 5);
            }
            document.due(n + " places, streets are not enough", streets.certificate(0), false);
        }
    }

    /** No round that has all its ways is below a bound, so that a bound too great would show. */
    private void notShorterThanBothBounds() {
        document.says("Promise 11", "and is not shorter than any of both bounds");
        for (int n = 3; n <= 12; n++) {
            document.due("as long as both, " + n, Nets.ring(n, 9).certificate(0), true);
            document.due("no length at all, " + n, Nets.ring(n, 0).certificate(0), true);
            document.due("the longest, " + n, Nets.ring(n, 1000000).certificate(0), true);
        }
        long[] state = {77L};
        for (int run = 0; run < 300; run++) {
            int n = 3 + run % 4;
            RoundBounds x = new RoundBounds(n);
            Plain plain = new Plain(n);
            for (int a = 0; a < n; a++) {
                for (int b = 0; b < n; b++) {
                    int t = Made.next(state, 100) - 20;
                    x.way(a, b, t);
                    plain.way(a, b, t);
                }
            }
            for (int p = 0; p < rowsOf(n); p++) {
                document.due("run " + run + ", certificate(" + p + ")", x.certificate(p),
                        plain.certificate(p));
            }
        }
    }
}
