import java.io.IOException;

/** The sentences of promises 5 and 6, and what 'Terms' says of assignments and cuts. */
public final class AssignAndCutTest {
    private static final int NONE = RoundBounds.NONE;

    private final Sentences document;

    private AssignAndCutTest(Sentences document) {
        this.document = document;
    }

    public static void main(String[] args) throws IOException {
        Sentences document = new Sentences(args);
        AssignAndCutTest test = new AssignAndCutTest(document);
        document.run(test::eachGetsAnotherOne);
        document.run(test::eachIsTheNextOfOne);
        document.run(test::theSumIsLeast);
        document.run(test::theSumOfWhatIsAssigned);
        document.run(test::noneWhenItCannotBe);
        document.run(test::streetsAreAsWideAsLong);
        document.run(test::zeroIfParted);
        document.run(test::theCutBetweenTwoPlaces);
        document.run(test::noneWhenNotThereOrTheSame);
        document.end();
    }

    private void eachGetsAnotherOne() {
        document.says("Terms", "ASSIGNED: each place gets another one as the next");
        RoundBounds x = Nets.ring(3, 7);
        for (int a = 0; a < 3; a++) {
            x.way(a, a, 0);
        }
        document.due("three in a ring, no place is its own next", x.assign(), 21);
        // 1 and 2 could go to and fro, if 0 could stay
        RoundBounds left = Nets.of(3, new int[][] {{1, 2, 1}, {2, 1, 1}});
        document.due("one of three is left over", left.assign(), NONE);
        RoundBounds twos = Nets.of(4, new int[][] {{0, 1, 1}, {1, 0, 2}, {2, 3, 4}, {3, 2, 8}});
        document.due("two and two go to and fro", twos.assign(), 15);
    }

    private void eachIsTheNextOfOne() {
        document.says("Terms", "each is the next of one");
        for (int n = 3; n <= 12; n++) {
            RoundBounds x = Nets.ring(n, 50);
            for (int a = 1; a < n; a++) {
                x.way(a, 0, 1);
            }
            document.due(n + " places, all near to 0", x.assign(), 50L * (n - 1) + 1);
        }
    }

    private void theSumIsLeast() {
        document.says("Terms", "the sum of the ways is least");
        RoundBounds greedy = Nets.of(4, new int[][] {{0, 1, 1}, {0, 2, 2}, {1, 2, 100},
            {1, 0, 100}, {2, 1, 2}, {2, 3, 100}, {3, 1, 100}, {3, 0, 1}, {1, 3, 3}});
        // 0 2, 2 1, 1 3, 3 0; the nearest first, 0 1, would leave 100 to 2
        document.due("the nearest first is not least", greedy.assign(), 8);
        document.due("the longest ways", Nets.full(12, 1000000).assign(), 12000000L);
        document.due("ways of no length", Nets.full(12, 0).assign(), 0);
        RoundBounds one = Nets.full(12, 1000000);
        one.way(5, 7, 999999);
        document.due("one shorter by 1", one.assign(), 11999999L);
        RoundBounds there = Nets.of(3, new int[][] {{0, 1, 5}, {1, 2, 5}, {2, 0, 5},
            {1, 0, 6}, {2, 1, 6}, {0, 2, 2}});
        document.due("three have two rounds", there.assign(), 14);
    }

    /** Against a reading that tries every choice. */
    private void theSumOfWhatIsAssigned() {
        document.says("Promise 5", "The sum of what is ASSIGNED;");
        for (int run = 0; run < 300; run++) {
            Made.Net net = Made.net(run, 3 + run % 10, 20 + run % 81);
            document.due("run " + run + ": assign()", net.x.assign(), net.plain.assign());
        }
    }

    private void noneWhenItCannotBe() {
        document.says("Promise 5", "NONE when it cannot be.");
        for (int n = 3; n <= 12; n++) {
            RoundBounds empty = new RoundBounds(n);
            document.due(n + " places without a way", empty.assign(), NONE);
            RoundBounds star = new RoundBounds(n);
            for (int a = 1; a < n; a++) {
                Nets.street(star, 0, a, 1);
            }
            document.due("a star of " + n + ": all want the same next", star.assign(), NONE);
            for (int a = 0; a < n; a++) {
                RoundBounds ring = Nets.ring(n, 1000000);
                ring.way(a, (a + 1) % n, -1);
                document.due("a ring of " + n + " without the way from " + a, ring.assign(), NONE);
                ring.way(a, (a + 1) % n, 1000000);
                document.due("a ring of " + n + ", whole again", ring.assign(), 1000000L * n);
            }
            noWayOutOrIn(n);
        }
    }

    private void noWayOutOrIn(int n) {
        for (int a = 0; a < n; a++) {
            RoundBounds out = Nets.full(n, 3);
            RoundBounds in = Nets.full(n, 3);
            for (int b = 0; b < n; b++) {
                out.way(a, b, -1);
                in.way(b, a, -1);
            }
            document.due(n + " places, no way out of " + a, out.assign(), NONE);
            document.due(n + " places, no way to " + a, in.assign(), NONE);
            out.way(a, (a + 1) % n, 1000000);
            in.way((a + 1) % n, a, 1000000);
            document.due(n + " places, one way out of " + a, out.assign(), 1000000 + 3L * (n - 1));
            document.due(n + " places, one way to " + a, in.assign(), 1000000 + 3L * (n - 1));
        }
    }

    private void streetsAreAsWideAsLong() {
        document.says("Terms", "A CUT between two places: streets are as wide as they are long; "
                + "the least sum of widths of streets whose taking away parts the one from the "
                + "other");
        RoundBounds x = Nets.of(5, new int[][] {{0, 1, 3}, {0, 2, 2}, {1, 2, 5}, {1, 3, 2},
            {2, 3, 3}});
        dueCut(x, 0, 3, 5);
        dueCut(x, 0, 1, 5);
        dueCut(x, 1, 2, 9);
        RoundBounds path = Nets.of(4, new int[][] {{0, 1, 9}, {2, 1, 4}, {2, 3, 6}});
        dueCut(path, 0, 3, 4);
        dueCut(path, 0, 1, 9);
        dueCut(path, 3, 2, 6);
        // the shortest chain 0 1 3 5 is not in the widest flow
        RoundBounds turned = Nets.of(6, new int[][] {{0, 1, 4}, {0, 2, 3}, {0, 3, 3}, {0, 5, 5},
            {1, 2, 2}, {1, 4, 3}, {1, 5, 3}, {2, 3, 4}, {2, 5, 4}, {4, 5, 4}});
        dueCut(turned, 0, 5, 15);
        for (int n = 3; n <= 12; n++) {
            RoundBounds full = Nets.full(n, 1000000);
            dueCut(full, 0, n - 1, 1000000L * (n - 1));
            dueCut(Nets.ring(n, 1000000), 0, n / 2, 2000000);
        }
    }

    private void dueCut(RoundBounds x, int a, int b, long width) {
        document.due("cut(" + a + ", " + b + ")", x.cut(a, b), width);
        document.due("cut(" + b + ", " + a + ")", x.cut(b, a), width);
    }

    private void zeroIfParted() {
        document.says("Terms", "(0 if they are parted)");
        for (int n = 3; n <= 12; n++) {
            RoundBounds x = new RoundBounds(n);
            dueCut(x, 0, n - 1, 0);
            x.way(0, 1, 8);
            dueCut(x, 0, 1, 8);
            dueCut(x, 0, n - 1, 0);
            dueCut(x, 1, n - 1, 0);
            x.way(n - 1, 1, 0);
            dueCut(x, 1, n - 1, 0);
            x.way(0, 1, -1);
            dueCut(x, 0, 1, 0);
        }
        RoundBounds two = Nets.of(6, new int[][] {{0, 1, 5}, {1, 2, 5}, {3, 4, 7}, {4, 5, 7}});
        dueCut(two, 0, 5, 0);
        dueCut(two, 2, 3, 0);
        dueCut(two, 0, 2, 5);
        dueCut(two, 3, 5, 7);
    }

    /** Against a reading that tries to put each place on either side. */
    private void theCutBetweenTwoPlaces() {
        document.says("Promise 6", "The CUT between two places;");
        for (int run = 0; run < 60; run++) {
            int n = 3 + run % 7;
            Made.Net net = Made.net(run, n, 15 + run);
            for (int i = 0; i < n; i++) {
                for (int what = 0; what < n; what++) {
                    document.due("run " + run + ": cut(" + i + ", " + what + ")",
                            net.x.cut(i, what), net.plain.cut(i, what));
                }
            }
        }
    }

    private void noneWhenNotThereOrTheSame() {
        document.says("Promise 6", "NONE when one is not there, or both are the same.");
        for (int n = 3; n <= 12; n++) {
            RoundBounds x = Nets.full(n, 4);
            for (int a = 0; a < n; a++) {
                document.due(n + " places, cut(" + a + ", " + a + ")", x.cut(a, a), NONE);
            }
            int[] outside = {-1, -2, n, n + 1, 13, 1 << 30, Integer.MIN_VALUE, Integer.MAX_VALUE};
            for (int w : outside) {
                document.due(n + " places, cut(" + w + ", 0)", x.cut(w, 0), NONE);
                document.due(n + " places, cut(0, " + w + ")", x.cut(0, w), NONE);
                document.due(n + " places, cut(" + w + ", last)", x.cut(w, n - 1), NONE);
                document.due(n + " places, cut(last, " + w + ")", x.cut(n - 1, w), NONE);
                document.due(n + " places, cut(" + w + ", same)", x.cut(w, w), NONE);
                document.due(n + " places, cut(" + w + ", -1)", x.cut(w, -1), NONE);
                document.due(n + " places, cut(" + n + ", " + w + ")", x.cut(n, w), NONE);
            }
            document.due(n + " places, the least and the greatest", x.cut(0, n - 1), 4L * (n - 1));
        }
    }
}
