import java.io.IOException;

/** The sentences of promises 1 and 2, and what 'Terms' says of ways, streets and throws. */
public final class NewObjectAndWayTest {
    private static final int NONE = RoundBounds.NONE;
    private static final long[] NO_LENGTHS = {-1, -2, 1000001, 1000002, Integer.MIN_VALUE,
        Integer.MAX_VALUE, 1L << 32, (1L << 32) + 5, -(1L << 32), 5 - (1L << 32), (1L << 52) + 5,
        Long.MIN_VALUE, Long.MIN_VALUE + 5, Long.MAX_VALUE, Long.MAX_VALUE - 5};

    private final Sentences document;

    private NewObjectAndWayTest(Sentences document) {
        this.document = document;
    }

    public static void main(String[] args) throws IOException {
        Sentences document = new Sentences(args);
        NewObjectAndWayTest test = new NewObjectAndWayTest(document);
        document.run(test::soManyPlacesBroughtTo3To12);
        document.run(test::noWays);
        document.run(test::placesAre0ToNLess1);
        document.run(test::aWayLeadsFromOneToAnother);
        document.run(test::noWayAtFirst);
        document.run(test::objectsAreApart);
        document.run(test::aWayTakesSoLong);
        document.run(test::noneIfNot0To1000000);
        document.run(test::nothingComesOfTheSamePlace);
        document.run(test::throwsWhenAPlaceIsNotThere);
        document.run(test::aWayThatThrowsChangesNothing);
        document.run(test::aStreetIsALesserWay);
        document.end();
    }

    private void soManyPlacesBroughtTo3To12() {
        document.says("Promise 1", "So many places, brought to 3 .. 12; no ways.");
        int[] few = {Integer.MIN_VALUE, Integer.MIN_VALUE + 3, -12, -1, 0, 1, 2, 3};
        for (int stops : few) {
            duePlaces(stops, 3);
        }
        for (int stops = 4; stops < 12; stops++) {
            duePlaces(stops, stops);
        }
        int[] many = {12, 13, 14, 100, 1 << 16, Integer.MAX_VALUE - 1, Integer.MAX_VALUE};
        for (int stops : many) {
            duePlaces(stops, 12);
        }
    }

    private void duePlaces(int stops, int n) {
        String name = "new RoundBounds(" + stops + ")";
        RoundBounds x = new RoundBounds(stops);
        document.due(name + ": places", Nets.places(x), n);
        document.due(name + ": the last place", x.cut(n - 1, 0), 0);
        document.due(name + ": one more", x.cut(n, 0), NONE);
        for (int a = 0; a < n; a++) {
            x.way(a, (a + 1) % n, 5);
        }
        document.due(name + ": a round through all", x.assign(), 5L * n);
        document.due(name + ": a tree over all", x.tree(1), 5L * n);
        document.due(name + ": a row of all", x.certificate(0), true);
    }

    private void noWays() {
        document.says("Promise 1", "brought to 3 .. 12; no ways.");
        for (int n = 3; n <= 12; n++) {
            String name = n + " places: ";
            RoundBounds x = new RoundBounds(n);
            document.due(name + "tree(50)", x.tree(50), NONE);
            document.due(name + "rounds()", x.rounds(), 0);
            document.due(name + "assign()", x.assign(), NONE);
            for (int a = 0; a < n; a++) {
                for (int b = 0; b < n; b++) {
                    document.due(name + "cut(" + a + ", " + b + ")", x.cut(a, b),
                            a == b ? NONE : 0);
                }
            }
            document.due(name + "postman(false)", x.postman(false), 0);
            document.due(name + "pairs", Nets.pairs(x), "");
            document.due(name + "postman(true)", x.postman(true), 0);
            document.due(name + "greatest()", x.greatest(), NONE);
            document.due(name + "linear(0)", x.linear(0), NONE);
            document.due(name + "certificate(0)", x.certificate(0), false);
        }
    }

    private void placesAre0ToNLess1() {
        document.says("Terms", "PLACES are 0 .. n - 1.");
        for (int n = 3; n <= 12; n++) {
            RoundBounds x = new RoundBounds(n);
            for (int a = -1; a <= n; a++) {
                int place = a;
                int other = a == 0 ? 1 : 0;
                if (a == -1 || a == n) {
                    document.dueThrows(n + " places: way(" + a + ", 0)",
                            () -> x.way(place, 0, 5), ArrayIndexOutOfBoundsException.class);
                    document.due(n + " places: cut(" + a + ", 0)", x.cut(a, 0), NONE);
                } else {
                    x.way(a, other, 5);
                    document.due(n + " places: cut(" + a + ", " + other + ")",
                            x.cut(a, other), 5);
                    x.way(a, other, -1);
                }
            }
        }
    }

    /** Of three places there are two rounds: one goes over three ways, the other over the rest. */
    private void aWayLeadsFromOneToAnother() {
        document.says("Terms", "A WAY from one to another takes so long");
        RoundBounds x = Nets.of(3, new int[][] {{0, 1, 1}, {1, 2, 10}, {2, 0, 100}});
        document.due("0 1 2 alone", x.certificate(0), true);
        document.due("0 2 1 is not there", x.certificate(1), false);
        document.due("0 1 2 alone: assign()", x.assign(), 111);
        x.way(0, 2, 7);
        x.way(2, 1, 20);
        document.due("0 2 1 has one way less", x.certificate(1), false);
        x.way(1, 0, 30);
        document.due("0 2 1 is there too", x.certificate(1), true);
        document.due("0 2 1 is shorter: assign()", x.assign(), 57);
        document.due("each way is gone: postman(true)", x.postman(true), 168);
        x.way(0, 1, -1);
        document.due("no way from 0 to 1", x.certificate(0), false);
        document.due("a way from 1 to 0", x.certificate(1), true);
        document.due("no way from 0 to 1: assign()", x.assign(), 57);
    }

    private void noWayAtFirst() {
        document.says("Terms", "takes so long, or there is none (at first).");
        int[][] rows = {{1, 2, 3}, {1, 3, 2}, {2, 1, 3}, {2, 3, 1}, {3, 1, 2}, {3, 2, 1}};
        for (int a = 0; a < 4; a++) {
            for (int b = 0; b < 4; b++) {
                RoundBounds x = allBut(a, b);
                for (int p = 0; p < rows.length; p++) {
                    document.due("all but " + a + " to " + b + ", certificate(" + p + ")",
                            x.certificate(p), a == b || !follows(rows[p], a, b));
                }
            }
        }
    }

    private static RoundBounds allBut(int missingFrom, int missingTo) {
        RoundBounds x = new RoundBounds(4);
        for (int a = 0; a < 4; a++) {
            for (int b = 0; b < 4; b++) {
                if (a != missingFrom || b != missingTo) {
                    x.way(a, b, 2);
                }
            }
        }
        return x;
    }

    private static boolean follows(int[] row, int a, int b) {
        int at = 0;
        for (int next : row) {
            if (at == a && next == b) {
                return true;
            }
            at = next;
        }
        return at == a && b == 0;
    }

    private void objectsAreApart() {
        document.says("Promise 1", "no ways.");
        RoundBounds first = Nets.hanging();
        first.tree(9);
        first.postman(false);
        String before = Nets.answers(first, 4);
        RoundBounds second = new RoundBounds(4);
        document.due("a second object: rounds()", second.rounds(), 0);
        document.due("a second object: pairs", Nets.pairs(second), "");
        document.due("a second object: assign()", second.assign(), NONE);
        for (int a = 0; a < 4; a++) {
            second.way(a, (a + 1) % 4, 1);
        }
        second.tree(1);
        document.due("a second object: postman(false)", second.postman(false), 4);
        document.due("the first object is as before", Nets.answers(first, 4), before);
    }

    private void aWayTakesSoLong() {
        document.says("Promise 2", "A way takes so long;");
        RoundBounds x = Nets.ring(3, 10);
        long[] lengths = {0, 1, 2, 999999, 1000000};
        for (long t : lengths) {
            x.way(0, 1, t);
            document.due("way(0, 1, " + t + "), assign()", x.assign(), t + 20);
            document.due("way(0, 1, " + t + "), tree(1)", x.tree(1), t + 20);
            document.due("way(0, 1, " + t + "), postman(false)", x.postman(false), t + 20);
            document.due("way(0, 1, " + t + "), postman(true)", x.postman(true), t + 20);
            document.due("way(0, 1, " + t + "), certificate(0)", x.certificate(0), true);
            document.due("way(0, 1, " + t + "), the other way round", x.certificate(1), false);
        }
    }

    private void noneIfNot0To1000000() {
        document.says("Promise 2", "there is none, if t is not 0 .. 1000000");
        for (long t : NO_LENGTHS) {
            RoundBounds x = Nets.ring(3, 10);
            x.way(0, 1, t);
            document.due("a way that was, with " + t + ": assign()", x.assign(), NONE);
            document.due("a way that was, with " + t + ": tree(1)", x.tree(1), NONE);
            document.due("a way that was, with " + t + ": cut(0, 1)", x.cut(0, 1), 10);
            document.due("a way that was, with " + t + ": certificate(0)", x.certificate(0),
                    false);
            x.way(0, 1, 4);
            document.due("told again after " + t, x.assign(), 24);
            RoundBounds fresh = new RoundBounds(3);
            fresh.way(0, 1, t);
            document.due("a way that was not, with " + t, fresh.postman(true), 0);
            document.due("a street that was not, with " + t, fresh.postman(false), 0);
            document.due("a pair that was not, with " + t, Nets.pairs(fresh), "");
        }
    }

    private void nothingComesOfTheSamePlace() {
        document.says("Promise 2", "Nothing comes of it when both are the same place.");
        long[] lengths = {0, 1, 1000000, -1, 1000001, Long.MIN_VALUE, Long.MAX_VALUE};
        for (int n = 3; n <= 12; n++) {
            for (long t : lengths) {
                String name = n + " places, way(a, a, " + t + "): ";
                RoundBounds empty = new RoundBounds(n);
                dueNothingNew(name + "no ways", empty, n, t);
                document.due(name + "no ways, tree(1)", empty.tree(1), NONE);
                document.due(name + "no ways, postman(false)", empty.postman(false), 0);
                RoundBounds ring = Nets.ring(n, 10);
                ring.tree(3);
                ring.postman(false);
                dueNothingNew(name + "a ring", ring, n, t);
                document.due(name + "a ring, tree(1)", ring.tree(1), 10L * n);
                document.due(name + "a ring, postman(false)", ring.postman(false), 10L * n);
            }
        }
    }

    private void dueNothingNew(String name, RoundBounds x, int n, long t) {
        String before = Nets.answers(x, n);
        for (int a = 0; a < n; a++) {
            x.way(a, a, t);
        }
        document.due(name, Nets.answers(x, n), before);
    }

    private void throwsWhenAPlaceIsNotThere() {
        document.says("Promise 2", "ArrayIndexOutOfBoundsException when a place is not there.");
        for (int n = 3; n <= 12; n++) {
            dueThrowsOutside(Nets.ring(n, 10), n, 0, 5, -1, 1000001, Long.MIN_VALUE,
                    Long.MAX_VALUE);
        }
    }

    private void aWayThatThrowsChangesNothing() {
        document.says("Terms", "A call that throws changes nothing.");
        for (int n = 4; n <= 12; n += 4) {
            RoundBounds x = Nets.full(n, 10);
            x.way(0, 2, 3);
            x.way(1, 3, 4);
            x.tree(7);
            x.postman(false);
            String before = Nets.answers(x, n);
            dueThrowsOutside(x, n, 5, -1);
            document.due(n + " places: all answers", Nets.answers(x, n), before);
        }
        RoundBounds empty = new RoundBounds(4);
        String before = Nets.answers(empty, 4);
        dueThrowsOutside(empty, 4, 0, 5);
        document.due("no ways: all answers", Nets.answers(empty, 4), before);
    }

    private void dueThrowsOutside(RoundBounds x, int n, long... lengths) {
        int[] outside = {-1, -2, n, n + 1, 13, 1 << 30, Integer.MIN_VALUE, Integer.MAX_VALUE};
        for (int w : outside) {
            for (long t : lengths) {
                dueThrows(x, 0, w, t);
                dueThrows(x, w, 0, t);
                dueThrows(x, n - 1, w, t);
                dueThrows(x, w, n - 1, t);
                dueThrows(x, w, w, t);
                dueThrows(x, w, -1, t);
                dueThrows(x, n, w, t);
            }
        }
    }

    private void dueThrows(RoundBounds x, int a, int b, long t) {
        document.dueThrows("way(" + a + ", " + b + ", " + t + ")", () -> x.way(a, b, t),
                ArrayIndexOutOfBoundsException.class);
    }

    private void aStreetIsALesserWay() {
        document.says("Terms", "A STREET is between two places if there is a way from one of "
                + "them to the other; its LENGTH is that, or the lesser of both.");
        RoundBounds x = new RoundBounds(3);
        x.way(0, 1, 9);
        document.due("a way there: cut(0, 1)", x.cut(0, 1), 9);
        document.due("a way there: cut(1, 0)", x.cut(1, 0), 9);
        x.way(1, 0, 4);
        document.due("a lesser way back: cut(0, 1)", x.cut(0, 1), 4);
        x.way(1, 0, 30);
        document.due("a longer way back: cut(0, 1)", x.cut(0, 1), 9);
        x.way(1, 0, 0);
        document.due("a way back of 0: cut(0, 1)", x.cut(0, 1), 0);
        document.due("a way back of 0: postman(false)", x.postman(false), 0);
        document.due("a way back of 0: pairs", Nets.pairs(x), "0-1");
        x.way(0, 1, -1);
        x.way(1, 0, 30);
        document.due("the way back alone: cut(0, 1)", x.cut(0, 1), 30);
        document.due("the way back alone: cut(1, 0)", x.cut(1, 0), 30);
        x.way(1, 0, 1000001);
        document.due("none of both: postman(false)", x.postman(false), 0);
        document.due("none of both: pairs", Nets.pairs(x), "");
    }
}
