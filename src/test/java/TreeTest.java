import java.io.IOException;

/** The sentences of promises 3 and 4, and what 'Terms' says of trees. */
public final class TreeTest {
    private static final int NONE = RoundBounds.NONE;
    private static final long HANGING_50 = 400 + 4 * 16 + 4 * 8 + 4 * 4 + 4 * 2 + 33;

    private final Sentences document;

    private TreeTest(Sentences document) {
        this.document = document;
    }

    public static void main(String[] args) throws IOException {
        Sentences document = new Sentences(args);
        TreeTest test = new TreeTest(document);
        document.run(test::roundsBroughtTo1To50);
        document.run(test::zeroIfBelow0);
        document.run(test::noneWithoutALinkedTree);
        document.run(test::roundedUp);
        document.run(test::weightsAre0AtFirst);
        document.run(test::priceIsTwiceTheLengthAndBothWeights);
        document.run(test::theCheapestThatCloseNoRing);
        document.run(test::ofSeveralTheLesserEnd);
        document.run(test::ofSeveralThenTheGreaterEnd);
        document.run(test::theLesserEndCountsFirst);
        document.run(test::atPlace0ThoseToTheLesserEnds);
        document.run(test::degreeIsHowManyEndThere);
        document.run(test::worthIsTheSumOfPrices);
        document.run(test::bestIsAboveAllBefore);
        document.run(test::steps);
        document.run(test::noRoundIsShorter);
        document.run(test::inWhichRound);
        document.run(test::zeroBeforeAnyOrWhenNone);
        document.run(test::whatOthersAskDoesNotCount);
        document.end();
    }

    private void dueTree(String name, RoundBounds x, int rounds, long bound, int best) {
        document.due(name + ": tree(" + rounds + ")", x.tree(rounds), bound);
        document.due(name + ": rounds() after tree(" + rounds + ")", x.rounds(), best);
    }

    /** Each round but the last makes the hanging net's bound greater, so none goes unseen. */
    private void roundsBroughtTo1To50() {
        document.says("Promise 3", "So many ROUNDS are made (brought to 1 .. 50)");
        RoundBounds x = Nets.hanging();
        int[] few = {Integer.MIN_VALUE, Integer.MIN_VALUE + 1, -50, -1, 0, 1};
        for (int rounds : few) {
            dueTree("hanging", x, rounds, 400, 1);
        }
        dueTree("hanging", x, 2, 416, 2);
        dueTree("hanging", x, 49, HANGING_50 - 1, 49);
        int[] many = {50, 51, 52, 100, 1 << 16, Integer.MAX_VALUE - 1, Integer.MAX_VALUE};
        for (int rounds : many) {
            dueTree("hanging", x, rounds, HANGING_50, 50);
        }
    }

    /** The first round has no weights, so no BEST is ever below 0: 0 is the least that is told. */
    private void zeroIfBelow0() {
        document.says("Promise 3", "(0, if it is below 0)");
        for (int n = 3; n <= 12; n++) {
            dueTree("a ring of " + n + " of no length", Nets.ring(n, 0), 50, 0, 1);
            RoundBounds full = Nets.full(n, 0);
            for (int rounds = 1; rounds <= 50; rounds++) {
                dueTree("all " + n + " at one spot", full, rounds, 0, 1);
            }
        }
    }

    private void noneWithoutALinkedTree() {
        document.says("Promise 3", "NONE when there is no linked tree.");
        dueNoTree("no street", new RoundBounds(3));
        dueNoTree("3 places without 0 to 1", Nets.of(3, new int[][] {{0, 2, 1}, {1, 2, 1}}));
        dueNoTree("3 places without 0 to 2", Nets.of(3, new int[][] {{0, 1, 1}, {1, 2, 1}}));
        dueNoTree("3 places without 1 to 2", Nets.of(3, new int[][] {{0, 1, 1}, {0, 2, 1}}));
        dueNoTree("place 0 has no street", Nets.of(4, new int[][] {{1, 2, 1}, {2, 3, 1}}));
        dueNoTree("place 0 has one street",
                Nets.of(4, new int[][] {{0, 1, 1}, {1, 0, 1}, {1, 2, 1}, {2, 3, 1}, {3, 1, 1}}));
        dueNoTree("the others are in two pieces",
                Nets.of(4, new int[][] {{0, 1, 1}, {0, 2, 1}, {0, 3, 1}, {1, 2, 1}}));
        dueNoTree("the last place has no street", Nets.of(5,
                new int[][] {{0, 1, 1}, {0, 2, 1}, {1, 2, 1}, {2, 3, 1}, {1, 3, 1}}));
        for (int n = 4; n <= 12; n++) {
            RoundBounds star = new RoundBounds(n);
            for (int a = 1; a < n; a++) {
                Nets.street(star, 0, a, 1);
            }
            dueNoTree("all of " + n + " hang at place 0", star);
            for (int a = 2; a < n; a++) {
                star.way(a, 1, 0);
            }
            dueTree("a tree of streets of length 0, " + n, star, 1, 2, 1);
        }
        dueTree("3 places with all streets",
                Nets.of(3, new int[][] {{1, 0, 0}, {2, 0, 0}, {2, 1, 0}}), 1, 0, 1);
    }

    private void dueNoTree(String name, RoundBounds x) {
        int[] rounds = {1, 2, 50, Integer.MIN_VALUE, Integer.MAX_VALUE};
        for (int asked : rounds) {
            dueTree(name, x, asked, NONE, 0);
        }
    }

    /** Only from the seventeenth round on is the step odd, so that a worth can be so too. */
    private void roundedUp() {
        document.says("Promise 3", "half of the BEST worth, rounded up");
        RoundBounds x = Nets.of(5, new int[][] {{0, 2, 1}, {0, 3, 2}, {0, 4, 3}, {1, 2, 2},
            {1, 3, 1}, {1, 4, 3}, {2, 3, 3}, {2, 4, 2}, {3, 4, 2}});
        dueTree("worths up to 16", x, 17, 8, 1);
        dueTree("a worth of 17", x, 18, 9, 18);
        dueTree("a worth of 17", x, 50, 9, 18);
        dueTree("the second is not the best", Nets.full(5, 10), 2, 50, 1);
        RoundBounds even = Nets.ring(3, 0);
        even.way(0, 1, 1);
        dueTree("a worth of 2", even, 50, 1, 1);
    }

    private void weightsAre0AtFirst() {
        document.says("Terms", "TREES. Each place has a WEIGHT (a whole number, 0 at first in "
                + "each asking).");
        RoundBounds x = Nets.hanging();
        dueTree("hanging", x, 50, HANGING_50, 50);
        dueTree("hanging, asked anew", x, 1, 400, 1);
        x.greatest();
        dueTree("hanging, after greatest()", x, 2, 416, 2);
        document.due("greatest() after tree(2)", x.greatest(), HANGING_50);
    }

    /**
     * As in the hanging net, 1 weighs 16 after the first round and 3 weighs -16. The next has
     * 1-3 200, 0-1 216, 0-2 200, and 1-2 for 216 or 2-3 for twice its length less 16.
     */
    private void priceIsTwiceTheLengthAndBothWeights() {
        document.says("Terms", "The PRICE of a street is twice its length and the weights of its "
                + "two ends together.");
        for (int length = 101; length <= 130; length++) {
            RoundBounds x = Nets.hanging();
            Nets.street(x, 2, 3, length);
            dueTree("2-3 of " + length, x, 1, 400, 1);
            dueTree("2-3 of " + length, x, 2, 308 + Math.min(108, length - 8), 2);
        }
    }

    private void theCheapestThatCloseNoRing() {
        document.says("Terms", "A LINKED TREE: a tree of streets over all places but 0, made by "
                + "taking, again and again, of the streets between two of these that close no "
                + "ring the one with the least price");
        dueTree("1-3 closes a ring", Nets.of(4, new int[][] {{1, 2, 1}, {2, 3, 2}, {1, 3, 3},
            {0, 1, 50}, {0, 2, 60}, {0, 3, 70}}), 1, 1 + 2 + 50 + 60, 1);
        dueTree("what 0 joins is not joined", Nets.of(4, new int[][] {{0, 1, 1}, {0, 2, 1},
            {0, 3, 1}, {1, 2, 100}, {2, 3, 100}, {1, 3, 200}}), 1, 1 + 1 + 100 + 100, 1);
        // the three cheapest are a ring, so 3-4 comes, and then 2-5, not 1-5 nor 4-5
        dueTree("a ring of the cheapest", Nets.of(6, new int[][] {{1, 2, 1}, {2, 3, 1}, {1, 3, 1},
            {1, 4, 9}, {3, 4, 5}, {1, 5, 8}, {2, 5, 7}, {4, 5, 8}, {0, 4, 20}, {0, 5, 30}}), 1,
            1 + 1 + 5 + 7 + 20 + 30, 1);
        // 1-2 and 3-4 are joined by 2-3, so that 1-4 closes a ring
        dueTree("a ring of two pieces", Nets.of(6, new int[][] {{1, 2, 1}, {3, 4, 1}, {2, 3, 2},
            {1, 4, 3}, {4, 5, 9}, {0, 1, 20}, {0, 5, 30}}), 1, 1 + 1 + 2 + 9 + 20 + 30, 1);
        for (int n = 4; n <= 12; n++) {
            RoundBounds full = Nets.full(n, 1000);
            for (int a = 1; a + 1 < n; a++) {
                full.way(a + 1, a, a);
            }
            dueTree("a chain of " + n, full, 1, (n - 1) * (n - 2) / 2 + 2000, 1);
        }
    }

    /**
     * 3 may hang at 1 or at 2, for 120. It is 1, which then weighs 32, and 3 and 4 weigh -16: the
     * next has 1-4 56, 1-2 72, 2-3 104, 0-1 72, 0-4 104. (With 2, the next would have 392.)
     */
    private void ofSeveralTheLesserEnd() {
        document.says("Terms", "the one with the least price, of several that whose lesser end "
                + "is least");
        RoundBounds x = Nets.of(5, new int[][] {{0, 1, 20}, {0, 2, 60}, {0, 4, 60}, {1, 2, 20},
            {1, 3, 60}, {1, 4, 20}, {2, 3, 60}, {2, 4, 60}});
        dueTree("3 hangs at 1", x, 1, 180, 1);
        dueTree("3 hangs at 1", x, 2, 204, 2);
    }

    /**
     * 1 may hang at 2 or at 4, for 120. It is 2, which then weighs 16, and 1 weighs -16: the next
     * has 3-4 40, 2-3 56, 1-4 104, 0-4 40, 0-3 120, no more. (With 4, the next would have 376.)
     */
    private void ofSeveralThenTheGreaterEnd() {
        document.says("Terms", "of several that whose lesser end is least, then the greater one");
        RoundBounds x = Nets.of(5, new int[][] {{0, 3, 60}, {0, 4, 20}, {1, 2, 60}, {1, 4, 60},
            {2, 3, 20}, {2, 4, 20}, {3, 4, 20}});
        dueTree("1 hangs at 2", x, 1, 180, 1);
        dueTree("1 hangs at 2", x, 2, 180, 1);
    }

    /**
     * 1-2, 1-3, 1-5 and 3-4 are 120 each, and one of the last two closes a ring: it is 3-4. Then
     * 1 weighs 32, and 3 and 4 weigh -16: 4-5 24, 3-4 88, 1-3 136, 1-2 152, 0-1 72, 0-2 40.
     */
    private void theLesserEndCountsFirst() {
        document.says("Terms", "of several that whose lesser end is least, then the greater one");
        RoundBounds x = Nets.of(6, new int[][] {{0, 1, 20}, {0, 2, 20}, {1, 2, 60}, {1, 3, 60},
            {1, 5, 60}, {3, 4, 60}, {4, 5, 20}});
        dueTree("1-5 before 3-4", x, 1, 240, 1);
        dueTree("1-5 before 3-4", x, 2, 256, 2);
    }

    /**
     * 0-2, 0-3 and 0-4 are 40 each: 0-2 and 0-3 it is. Then 2 and 3 weigh 16, 1 and 4 weigh -16:
     * 3-4 40, 1-2 120, 2-3 152, 0-4 24, 0-2 56. (With 0-4 the next would have 376.)
     */
    private void atPlace0ThoseToTheLesserEnds() {
        document.says("Terms", "and the two streets at place 0 with the least prices, of "
                + "several those to the lesser ends");
        RoundBounds x = Nets.of(5, new int[][] {{0, 1, 60}, {0, 2, 20}, {0, 3, 20}, {0, 4, 20},
            {1, 2, 60}, {2, 3, 60}, {3, 4, 20}});
        dueTree("0-2 and 0-3", x, 1, 180, 1);
        dueTree("0-2 and 0-3", x, 2, 196, 2);
    }

    /**
     * All but 0 hang at one, which has n - 2 streets; two have two, all others one. The second
     * worth is 200 n and, for each place, its degree times (its degree less 2) times 16.
     */
    private void degreeIsHowManyEndThere() {
        document.says("Terms", "A place's DEGREE is how many of its streets end there.");
        for (int n = 5; n <= 12; n++) {
            for (int hub = 1; hub < n; hub++) {
                RoundBounds x = new RoundBounds(n);
                for (int a = 1; a < n; a++) {
                    x.way(hub, a, 100);
                }
                x.way(0, hub == 1 ? 2 : 1, 100);
                x.way(hub == n - 1 ? n - 2 : n - 1, 0, 100);
                dueTree("a star of " + n, x, 1, 100L * n, 1);
                dueTree("a star of " + n, x, 2, 100L * n + 8L * (n - 4) * (n - 3), 2);
            }
        }
    }

    /**
     * Where there is but one linked tree, its worth is twice all lengths, and each place's weight
     * as often as its degree, less two: the weight being (its degree less 2) times all steps. (The
     * weights' sum is always 0, as a linked tree has as many streets as there are places.)
     */
    private void worthIsTheSumOfPrices() {
        document.says("Terms", "Its WORTH is the sum of its prices, less twice the sum of all "
                + "weights of places.");
        long[] state = {31L};
        for (int run = 0; run < 60; run++) {
            int n = 4 + run % 9;
            RoundBounds x = new RoundBounds(n);
            int[] degrees = new int[n];
            long lengths = 0;
            for (int a = 2; a < n + 2; a++) {
                int from = a < n ? a : 0;
                int to = a < n ? 1 + Made.next(state, a - 1) : a == n ? 1 : n - 1;
                int t = Made.next(state, 1000001);
                x.way(from, to, t);
                degrees[from]++;
                degrees[to]++;
                lengths += t;
            }
            dueWorths("the only tree, run " + run, x, lengths, degrees);
        }
    }

    private void dueWorths(String name, RoundBounds x, long lengths, int[] degrees) {
        long perStep = 0;
        for (int degree : degrees) {
            perStep += (degree - 2L) * (degree - 2);
        }
        long steps = 0;
        for (int rounds = 1; rounds <= 50; rounds++) {
            dueTree(name, x, rounds, lengths + steps * perStep / 2, perStep == 0 ? 1 : rounds);
            steps += stepOf(rounds);
        }
    }

    private static int stepOf(int round) {
        return round <= 4 ? 16 : round <= 8 ? 8 : round <= 12 ? 4 : round <= 16 ? 2 : 1;
    }

    private void bestIsAboveAllBefore() {
        document.says("Terms", "So many ROUNDS, each: the linked tree is made; if its worth is "
                + "above all before it is the BEST");
        dueTree("the same worth in each round", Nets.ring(6, 8), 50, 48, 1);
        RoundBounds x = Nets.full(5, 10);
        // a star at 1 first: the next has 3-4 -12, 2-3 4, 1-3 36, 0-3 4, 0-4 4, which is less
        dueTree("less in the second", x, 1, 50, 1);
        dueTree("less in the second", x, 2, 50, 1);
        dueTree("less or the same in all others", x, 50, 50, 1);
    }

    private void steps() {
        document.says("Terms", "then each place's weight changes by (its degree less 2) times a "
                + "STEP, which is 16 in the first four rounds, 8 in the next four, then 4, then "
                + "2, and 1 from the seventeenth on");
        RoundBounds x = Nets.hanging();
        // 1 has three streets and 3 has one: a round adds its step twice to the next worth
        long bound = 400;
        for (int rounds = 1; rounds <= 50; rounds++) {
            dueTree("hanging", x, rounds, bound, rounds);
            bound += stepOf(rounds);
        }
    }

    private void noRoundIsShorter() {
        document.says("Terms", "No round (each place once, and back) is shorter than half its "
                + "worth, rounded up.");
        long[] state = {20261116L};
        for (int run = 0; run < 200; run++) {
            int n = 3 + run % 5;
            RoundBounds x = new RoundBounds(n);
            Plain plain = new Plain(n);
            for (int a = 0; a < n; a++) {
                for (int b = 0; b < n; b++) {
                    int t = Made.next(state, 30);
                    x.way(a, b, t);
                    plain.way(a, b, t);
                }
            }
            long shortest = plain.shortestRound();
            for (int rounds = 1; rounds <= 50; rounds++) {
                document.due("run " + run + ": tree(" + rounds + ") is at most " + shortest,
                        x.tree(rounds) <= shortest, true);
            }
        }
    }

    private void inWhichRound() {
        document.says("Promise 4", "In which round (1 the first) of the latest tree() the BEST "
                + "was");
        RoundBounds x = Nets.hanging();
        int[] asked = {1, 50, 7, 2, 49, 1};
        for (int rounds : asked) {
            x.tree(rounds);
            document.due("rounds() after tree(" + rounds + ")", x.rounds(), rounds);
            document.due("rounds() again", x.rounds(), rounds);
        }
        RoundBounds ring = Nets.ring(6, 8);
        ring.tree(50);
        document.due("the first of 50 alike", ring.rounds(), 1);
        x.tree(9);
        Nets.street(x, 2, 3, 1);
        document.due("ways that come later change nothing", x.rounds(), 9);
        x.assign();
        x.cut(0, 3);
        x.postman(false);
        x.postman(true);
        document.due("other calls change nothing", x.rounds(), 9);
    }

    private void zeroBeforeAnyOrWhenNone() {
        document.says("Promise 4", "0 before any, or when there was none.");
        for (int n = 3; n <= 12; n++) {
            RoundBounds x = new RoundBounds(n);
            document.due(n + " places: before any", x.rounds(), 0);
            x.tree(50);
            document.due(n + " places: there was none", x.rounds(), 0);
            for (int a = 0; a < n; a++) {
                x.way(a, (a + 1) % n, 1);
            }
            document.due(n + " places: still before one", x.rounds(), 0);
            x.tree(50);
            document.due(n + " places: there is one", x.rounds(), 1);
            x.way(1, 2, -1);
            x.tree(50);
            document.due(n + " places: there is none any more", x.rounds(), 0);
        }
    }

    private void whatOthersAskDoesNotCount() {
        document.says("Promise 4", "(What others ask trees for does not count.)");
        RoundBounds x = Nets.hanging();
        // a round goes over these, but no tree does: the BEST of 50 rounds is the last
        x.way(3, 2, 300);
        x.way(0, 3, 300);
        int[] asked = {0, 1, 2, 3};
        for (int rounds : asked) {
            if (rounds > 0) {
                x.tree(rounds);
            }
            document.due("greatest()", x.greatest(), HANGING_50);
            document.due("after greatest()", x.rounds(), rounds);
            document.due("linear(5)", x.linear(5), HANGING_50 * 200);
            document.due("after linear(5)", x.rounds(), rounds);
            document.dueThrows("linear(0)", () -> x.linear(0), ArithmeticException.class);
            document.due("after linear(0)", x.rounds(), rounds);
            for (int p = 0; p < 6; p++) {
                document.due("certificate(" + p + ")", x.certificate(p), p == 1 || p >= 4);
                document.due("after certificate(" + p + ")", x.rounds(), rounds);
            }
        }
        othersAskAfterNone();
        othersAskForNone();
    }

    private void othersAskAfterNone() {
        RoundBounds x = new RoundBounds(3);
        x.tree(4);
        x.way(0, 1, 1);
        x.way(1, 2, 1);
        x.way(2, 0, 1);
        x.greatest();
        x.certificate(0);
        document.due("none in the latest, though others find one", x.rounds(), 0);
    }

    private void othersAskForNone() {
        RoundBounds x = Nets.ring(3, 1);
        x.tree(4);
        x.way(0, 1, -1);
        document.due("greatest() finds none", x.greatest(), NONE);
        x.linear(0);
        x.certificate(0);
        document.due("one in the latest, though others find none", x.rounds(), 1);
    }
}
