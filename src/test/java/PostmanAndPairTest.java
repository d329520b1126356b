import java.io.IOException;

/** The sentences of promises 7 and 8, and what 'Terms' says of the postman and of refusals. */
public final class PostmanAndPairTest {
    private static final int NONE = RoundBounds.NONE;

    private final Sentences document;

    private PostmanAndPairTest(Sentences document) {
        this.document = document;
    }

    public static void main(String[] args) throws IOException {
        Sentences document = new Sentences(args);
        PostmanAndPairTest test = new PostmanAndPairTest(document);
        document.run(test::theLeastWayOverEachStreet);
        document.run(test::thePostmansWay);
        document.run(test::streetsAreGoneEitherWay);
        document.run(test::sumOfAllAndLeastPairing);
        document.run(test::sumOfAllAndLeastWaysAgain);
        document.run(test::minus1IsToldWhenThereIsNone);
        document.run(test::refusesStreetsInTwoPieces);
        document.run(test::placesWithoutAStreetDoNotCount);
        document.run(test::zeroWithoutAnyStreet);
        document.run(test::refusesWaysThatDoNotLeadBack);
        document.run(test::placesWithoutAWayDoNotCount);
        document.run(test::pairsByTheLesserPlace);
        document.run(test::theLesserPlaceAndTheOtherOne);
        document.run(test::pairsOfTheLatestThatWasNotNone);
        document.run(test::noneWhenThereIsNoSuchPair);
        document.run(test::noneWhenSideIsNoneOfThese);
        document.run(test::leastPlaceWithTheLeastOne);
        document.run(test::thenTheLeastOfThoseLeft);
        document.end();
    }

    /** Against a search for the way itself, step by step, that knows of no pairs and trips. */
    private void theLeastWayOverEachStreet() {
        document.says("Terms", "POSTMAN: the least way (places and streets as often as need be) "
                + "that goes over each street at least once and ends where it began.");
        int found = 0;
        for (int run = 0; run < 400; run++) {
            int n = 3 + run % 4;
            Made.Net net = Made.few(run, n, 1 + run % 9);
            document.due("run " + run + ": postman(false)", net.x.postman(false),
                    Walks.overStreets(net.plain));
            long directed = Walks.overWays(net.plain);
            document.due("run " + run + ": postman(true)", net.x.postman(true), directed);
            found += directed == NONE ? 0 : 1;
        }
        document.due("many of these have a directed way", found > 100, true);
    }

    private void thePostmansWay() {
        document.says("Promise 7", "The POSTMAN's way.");
        for (int run = 0; run < 100; run++) {
            int n = 3 + run % 6;
            Made.Net net = Made.net(run, n, 20 + run % 81);
            document.due("run " + run + ": postman(false)", net.x.postman(false),
                    net.plain.postmanOverStreets());
            document.due("run " + run + ": postman(true)", net.x.postman(true),
                    net.plain.postmanOverWays());
        }
    }

    private void streetsAreGoneEitherWay() {
        document.says("Terms", "Both ways (not DIRECTED): streets with their lengths are gone "
                + "either way");
        int[][] streets = {{0, 1, 3}, {1, 2, 5}, {2, 3, 7}, {3, 0, 11}, {0, 2, 13}, {3, 4, 2}};
        // 0, 2 and 3 have three streets and 4 has one: 0 with 2 over 1 for 8, 3 with 4 for 2
        for (int turned = 0; turned < 1 << streets.length; turned++) {
            RoundBounds x = new RoundBounds(5);
            for (int i = 0; i < streets.length; i++) {
                boolean back = (turned >> i & 1) == 1;
                x.way(streets[i][back ? 1 : 0], streets[i][back ? 0 : 1], streets[i][2]);
            }
            duePost("told from other ends, " + turned, x, 41 + 8 + 2, "0-2 3-4");
            document.due("told once, DIRECTED, " + turned, x.postman(true), NONE);
        }
    }

    private void sumOfAllAndLeastPairing() {
        document.says("Terms", "it is the sum of all and the least sum of shortest ways that PAIR "
                + "the places of odd degree");
        RoundBounds one = Nets.of(6, new int[][] {{1, 2, 4}});
        duePost("one street, to and fro", one, 8, "1-2");
        duePost("a street of no length", Nets.of(3, new int[][] {{2, 0, 0}}), 0, "0-2");
        duePost("a ring", Nets.ring(5, 9), 45, "");
        duePost("the longest", Nets.full(12, 1000000), 72000000L,
                "0-1 2-3 4-5 6-7 8-9 10-11");
        RoundBounds detour = Nets.of(4, new int[][] {{0, 1, 50}, {0, 2, 1}, {2, 1, 1}, {0, 3, 1},
            {3, 1, 1}});
        duePost("the shortest way is not the street", detour, 56, "0-1");
        // the shortest street 1-2 is not in the least pairing
        RoundBounds path = Nets.of(4, new int[][] {{0, 1, 10}, {1, 2, 9}, {2, 3, 10}, {0, 2, 99},
            {1, 3, 99}, {0, 3, 99}});
        duePost("the nearest two do not go together", path, 326 + 20, "0-1 2-3");
        duePost("the least place does not go with the next", four(9, 6, 5, 5, 6, 9), 40 + 10,
                "0-3 1-2");
        RoundBounds lesser = new RoundBounds(3);
        lesser.way(0, 1, 7);
        lesser.way(1, 0, 5);
        duePost("the lesser of both, once there and once back", lesser, 10, "0-1");
    }

    private void duePost(String name, RoundBounds x, long way, String pairs) {
        document.due(name + ": postman(false)", x.postman(false), way);
        document.due(name + ": pairs", Nets.pairs(x), pairs);
    }

    private void sumOfAllAndLeastWaysAgain() {
        document.says("Terms", "DIRECTED: each way is gone as it is told: the sum of all and the "
                + "least sum of shortest ways that make as many come to each place as go from it");
        RoundBounds x = Nets.of(3, new int[][] {{0, 1, 7}, {1, 0, 5}});
        document.due("there and back", x.postman(true), 12);
        document.due("a ring", Nets.ring(12, 1000000).postman(true), 12000000L);
        document.due("all ways", Nets.full(12, 1000000).postman(true), 132000000L);
        document.due("ways of no length", Nets.full(12, 0).postman(true), 0);
        // 3 -> 0 is gone twice more, and 2 -> 3 once more
        RoundBounds fan = Nets.of(4, new int[][] {{0, 1, 1}, {0, 2, 1}, {0, 3, 1}, {1, 2, 1},
            {2, 3, 1}, {3, 0, 10}});
        document.due("a fan", fan.postman(true), 15 + 20 + 1);
        // three come to 2 and two go, three go from 0 and two come: once more over 1, not straight
        RoundBounds back = Nets.of(5, new int[][] {{0, 2, 1}, {0, 3, 1}, {3, 2, 1}, {0, 4, 1},
            {4, 2, 1}, {2, 0, 50}, {2, 1, 3}, {1, 0, 4}});
        document.due("the shortest way back is not the straight one", back.postman(true), 62 + 7);
        theNearestFirstIsNotLeast();
        manyTrips();
    }

    /**
     * One more comes to 0 and to 1 than goes, one more goes from 2 and from 3. From 0 to 2 it is
     * nearest, but then 100 is left for 1 to 3: 0 to 3 and 1 to 2 are less together.
     */
    private void theNearestFirstIsNotLeast() {
        RoundBounds x = Nets.of(6, new int[][] {{0, 2, 1}, {0, 3, 2}, {1, 2, 2}, {1, 3, 100},
            {2, 0, 1000}, {2, 1, 1000}, {3, 0, 1000}, {3, 1, 1000}, {2, 4, 500}, {4, 0, 500},
            {3, 5, 500}, {5, 1, 500}});
        document.due("the nearest first is not least", x.postman(true), 6105 + 2 + 2);
    }

    /**
     * Each place leads to all greater ones, and only the last leads back, to the first: each trip
     * goes from a late place to the last, to the first, and to an early place. Of the ways at
     * place a, a come and n - 1 - a go; the way back is itself the first of these trips.
     */
    private void manyTrips() {
        for (int n = 3; n <= 12; n++) {
            RoundBounds x = new RoundBounds(n);
            long trips = -1;
            long stepsToAndFro = 0;
            for (int a = 0; a < n; a++) {
                for (int b = a + 1; b < n; b++) {
                    x.way(a, b, 1);
                }
                int moreCome = 2 * a - (n - 1);
                trips += Math.max(0, moreCome);
                stepsToAndFro += a == 0 || a == n - 1 ? 0 : Math.abs(moreCome);
            }
            x.way(n - 1, 0, 1000);
            long once = n * (n - 1L) / 2 + 1000;
            document.due(n + " places, " + trips + " trips", x.postman(true),
                    once + trips * 1000 + stepsToAndFro);
        }
    }

    private void minus1IsToldWhenThereIsNone() {
        document.says("Terms", "REFUSALS: -1 is told when there is none: no linked tree, no "
                + "assignment, streets in two pieces");
        document.due("NONE", NONE, -1);
        RoundBounds x = Nets.of(5, new int[][] {{0, 1, 4}, {2, 3, 4}});
        document.due("no linked tree: tree(1)", x.tree(1), -1);
        document.due("no linked tree: tree(50)", x.tree(50), -1);
        document.due("no assignment: assign()", x.assign(), -1);
        document.due("streets in two pieces: postman(false)", x.postman(false), -1);
        document.due("streets in two pieces: postman(true)", x.postman(true), -1);
        document.due("no such place: cut(0, 5)", x.cut(0, 5), -1);
        document.due("no such pair: pair(0, 0)", x.pair(0, 0), -1);
        document.due("neither tree nor assignment: greatest()", x.greatest(), -1);
        document.due("neither tree nor assignment: linear(2)", x.linear(2), -1);
    }

    private void refusesStreetsInTwoPieces() {
        document.says("Terms", "streets in two pieces");
        RoundBounds x = Nets.of(4, new int[][] {{0, 1, 1}, {2, 3, 1}});
        document.due("two streets apart", x.postman(false), NONE);
        x.way(1, 2, 0);
        document.due("joined by one of length 0", x.postman(false), 4);
        x.way(1, 2, -1);
        document.due("apart again", x.postman(false), NONE);
        RoundBounds rings = Nets.of(6, new int[][] {{0, 2, 1}, {2, 4, 1}, {4, 0, 1}, {1, 3, 1},
            {3, 5, 1}, {5, 1, 1}});
        document.due("two rings", rings.postman(false), NONE);
        document.due("two rings, directed", rings.postman(true), NONE);
        RoundBounds twelve = Nets.of(12, new int[][] {{0, 11, 1}, {11, 0, 1}, {5, 6, 1},
            {6, 5, 1}});
        document.due("the outermost and two in the middle", twelve.postman(false), NONE);
        document.due("the same, directed", twelve.postman(true), NONE);
        RoundBounds zero = Nets.of(5, new int[][] {{0, 1, 0}, {3, 4, 0}});
        document.due("streets of length 0 are pieces too", zero.postman(false), NONE);
        RoundBounds three = Nets.of(6, new int[][] {{0, 1, 1}, {2, 3, 1}, {4, 5, 1}});
        document.due("three pieces", three.postman(false), NONE);
    }

    private void placesWithoutAStreetDoNotCount() {
        document.says("Terms", "(places without a street do not count;");
        for (int n = 4; n <= 12; n++) {
            for (int alone = 0; alone < n; alone++) {
                RoundBounds x = Nets.full(n, 1);
                for (int b = 0; b < n; b++) {
                    x.way(alone, b, -1);
                    x.way(b, alone, -1);
                }
                int others = n - 1;
                long streets = others * (others - 1L) / 2;
                long again = others % 2 == 0 ? others / 2 : 0;
                document.due(alone + " of " + n + " is alone", x.postman(false), streets + again);
                document.due(alone + " of " + n + " is alone, directed", x.postman(true),
                        2 * streets);
            }
        }
        document.due("ten of twelve are alone",
                Nets.of(12, new int[][] {{3, 9, 6}}).postman(false), 12);
    }

    private void zeroWithoutAnyStreet() {
        document.says("Terms", "without any street the postman's way is 0");
        for (int n = 3; n <= 12; n++) {
            RoundBounds x = new RoundBounds(n);
            document.due(n + " places: postman(false)", x.postman(false), 0);
            document.due(n + " places: postman(true)", x.postman(true), 0);
            x.way(0, n - 1, 5);
            document.due(n + " places, one street", x.postman(false), 10);
            x.way(0, n - 1, -1);
            document.due(n + " places, none any more", x.postman(false), 0);
            document.due(n + " places, none any more, directed", x.postman(true), 0);
            document.due(n + " places, none any more: pairs", Nets.pairs(x), "");
        }
    }

    private void refusesWaysThatDoNotLeadBack() {
        document.says("Terms", "DIRECTED ways over which one cannot come from each place that has "
                + "one to each other such");
        RoundBounds x = new RoundBounds(5);
        x.way(0, 1, 1);
        document.due("no way back", x.postman(true), NONE);
        x.way(1, 0, 2);
        document.due("a way back", x.postman(true), 3);
        x.way(2, 3, 1);
        x.way(3, 2, 1);
        document.due("two pieces", x.postman(true), NONE);
        x.way(1, 2, 5);
        document.due("no way back from the second piece", x.postman(true), NONE);
        x.way(3, 0, 7);
        document.due("a way back from it", x.postman(true), 17 + 2);
        x.way(0, 4, 1);
        document.due("a place that one cannot leave", x.postman(true), NONE);
        x.way(0, 4, -1);
        x.way(4, 0, 1);
        document.due("a place that one cannot come to", x.postman(true), NONE);
        x.way(0, 4, 0);
        document.due("both ways to it", x.postman(true), 19 + 1);
        for (int n = 3; n <= 12; n++) {
            for (int a = 0; a < n; a++) {
                RoundBounds ring = Nets.ring(n, 2);
                ring.way(a, (a + 1) % n, -1);
                document.due("a ring of " + n + " broken at " + a, ring.postman(true), NONE);
            }
            blindEnds(n);
        }
    }

    private void blindEnds(int n) {
        for (int a = 0; a < n; a++) {
            RoundBounds out = Nets.full(n, 3);
            RoundBounds in = Nets.full(n, 3);
            for (int b = 0; b < n; b++) {
                out.way(a, b, -1);
                in.way(b, a, -1);
            }
            document.due(n + " places, no way out of " + a, out.postman(true), NONE);
            document.due(n + " places, no way to " + a, in.postman(true), NONE);
            document.due(n + " places, streets are gone either way: " + a,
                    out.postman(false) != NONE && in.postman(false) != NONE, true);
        }
    }

    private void placesWithoutAWayDoNotCount() {
        document.says("Terms", "from each place that has one to each other such");
        for (int a = 0; a < 12; a++) {
            for (int b = 0; b < 12; b++) {
                if (a != b) {
                    RoundBounds x = new RoundBounds(12);
                    x.way(a, b, 3);
                    x.way(b, a, 4);
                    document.due("only " + a + " and " + b, x.postman(true), 7);
                }
            }
        }
    }

    private void pairsByTheLesserPlace() {
        document.says("Promise 8", "The i-th pair (0 the first, by its lesser place)");
        // two rings of three, with a short street from each place to one of the other ring
        RoundBounds x = Nets.of(6, new int[][] {{5, 0, 1}, {4, 1, 1}, {3, 2, 1}, {0, 1, 9},
            {1, 2, 9}, {0, 2, 9}, {5, 4, 9}, {4, 3, 9}, {5, 3, 9}});
        document.due("postman(false)", x.postman(false), 57 + 3);
        int[][] due = {{0, 5}, {1, 4}, {2, 3}};
        for (int i = 0; i < due.length; i++) {
            document.due("pair(" + i + ", 0)", x.pair(i, 0), due[i][0]);
            document.due("pair(" + i + ", 1)", x.pair(i, 1), due[i][1]);
        }
    }

    /** Each place of odd degree is in one pair, and the ways between them are what is added. */
    private void theLesserPlaceAndTheOtherOne() {
        document.says("Promise 8", "its lesser place (side = 0), the other one (1)");
        for (int run = 0; run < 200; run++) {
            int n = 3 + run % 10;
            Made.Net net = Made.net(run, n, 25 + run % 76);
            long way = net.x.postman(false);
            int before = -1;
            int paired = 0;
            long again = 0;
            for (int i = 0; net.x.pair(i, 0) != NONE; i++) {
                int lesser = net.x.pair(i, 0);
                int other = net.x.pair(i, 1);
                document.due("run " + run + ", pair " + i + " is in order",
                        before < lesser && lesser < other && other < n, true);
                before = lesser;
                paired |= 1 << lesser | 1 << other;
                again += net.plain.shortest(false)[lesser][Math.max(0, other)];
            }
            if (way != NONE) {
                document.due("run " + run + ", the pairs", paired, net.plain.oddPlaces());
                document.due("run " + run + ", the way", way, net.plain.allStreets() + again);
            }
        }
    }

    private void pairsOfTheLatestThatWasNotNone() {
        document.says("Promise 8", "of the latest postman(false) that was not NONE");
        RoundBounds x = new RoundBounds(5);
        x.way(1, 3, 4);
        x.way(3, 1, 4);
        document.due("before any", Nets.pairs(x), "");
        document.due("directed", x.postman(true), 8);
        document.due("directed does not count", Nets.pairs(x), "");
        duePost("the first", x, 8, "1-3");
        document.due("directed again", x.postman(true), 8);
        document.due("directed changes nothing", Nets.pairs(x), "1-3");
        x.way(0, 2, 1);
        document.due("a way changes nothing", Nets.pairs(x), "1-3");
        duePost("one that is NONE changes nothing", x, NONE, "1-3");
        document.due("directed that is NONE", x.postman(true), NONE);
        document.due("directed that is NONE changes nothing", Nets.pairs(x), "1-3");
        x.way(3, 2, 1);
        duePost("the next", x, 12, "0-1");
        x.tree(50);
        x.assign();
        x.greatest();
        x.certificate(0);
        document.due("others change nothing", Nets.pairs(x), "0-1");
        x.way(0, 1, 1);
        duePost("one without a pair", x, 7, "");
        x.way(0, 4, 5);
        x.way(0, 1, -1);
        x.way(0, 2, -1);
        duePost("one that is NONE after one without a pair", x, NONE, "");
        laterWithFewerPairs();
        noneFirst();
    }

    private void laterWithFewerPairs() {
        RoundBounds x = Nets.full(6, 2);
        duePost("three pairs", x, 36, "0-1 2-3 4-5");
        for (int a = 0; a < 5; a++) {
            x.way(5, a, -1);
            x.way(a, 5, -1);
        }
        x.way(5, 4, 1);
        duePost("one pair", x, 22, "4-5");
        x.way(5, 4, -1);
        duePost("no pair", x, 20, "");
        for (int a = 0; a < 6; a++) {
            for (int b = 0; b < 6; b++) {
                x.way(a, b, -1);
            }
        }
        x.way(2, 5, 3);
        duePost("one pair again", x, 6, "2-5");
        x.way(2, 5, -1);
        duePost("0, without any street, is not NONE", x, 0, "");
    }

    private void noneFirst() {
        RoundBounds x = Nets.of(4, new int[][] {{0, 1, 1}, {2, 3, 1}});
        duePost("NONE at first", x, NONE, "");
        x.way(0, 1, -1);
        duePost("then one", x, 2, "2-3");
    }

    private void noneWhenThereIsNoSuchPair() {
        document.says("Promise 8", "NONE when there is none such");
        int[] far = {-1, -2, 6, 7, 12, 1 << 30, (1 << 30) + 1, Integer.MIN_VALUE,
            Integer.MIN_VALUE + 1, Integer.MAX_VALUE - 1, Integer.MAX_VALUE};
        for (int n = 4; n <= 12; n += 2) {
            RoundBounds x = Nets.full(n, 5);
            dueNoPair(n + " places, before any", x, 0);
            x.postman(false);
            for (int i = 0; i < n / 2; i++) {
                document.due(n + " places, pair(" + i + ", 0)", x.pair(i, 0), 2 * i);
                document.due(n + " places, pair(" + i + ", 1)", x.pair(i, 1), 2 * i + 1);
            }
            dueNoPair(n + " places", x, n / 2);
            for (int i : far) {
                dueNoPair(n + " places", x, i);
            }
        }
        RoundBounds ring = Nets.ring(12, 1);
        ring.postman(false);
        dueNoPair("a ring", ring, 0);
    }

    private void dueNoPair(String name, RoundBounds x, int i) {
        document.due(name + ", pair(" + i + ", 0)", x.pair(i, 0), NONE);
        document.due(name + ", pair(" + i + ", 1)", x.pair(i, 1), NONE);
    }

    private void noneWhenSideIsNoneOfThese() {
        document.says("Promise 8", "or side is none of these");
        int[] sides = {-1, -2, 2, 3, 1 << 30, Integer.MIN_VALUE, Integer.MIN_VALUE + 1,
            Integer.MAX_VALUE};
        RoundBounds x = Nets.full(6, 5);
        x.postman(false);
        for (int side : sides) {
            for (int i = -1; i <= 3; i++) {
                document.due("pair(" + i + ", " + side + ")", x.pair(i, side), NONE);
            }
            document.due("pair(max, " + side + ")", x.pair(Integer.MAX_VALUE, side), NONE);
            document.due("pair(min, " + side + ")", x.pair(Integer.MIN_VALUE, side), NONE);
        }
        document.due("pair(1, 0)", x.pair(1, 0), 2);
        document.due("pair(1, 1)", x.pair(1, 1), 3);
    }

    private void leastPlaceWithTheLeastOne() {
        document.says("Terms", "of several pairings with it the one in which the least place is "
                + "paired with the least one");
        duePost("all alike", Nets.full(4, 10), 80, "0-1 2-3");
        // 5 and 1 are as much as 3 and 3
        duePost("the dearer street of an equal sum", four(5, 3, 9, 9, 3, 1), 36, "0-1 2-3");
        duePost("the cheaper street of an equal sum", four(1, 3, 9, 9, 3, 5), 36, "0-1 2-3");
        // 0-1 2-3 is dearer; 0-2 1-3 and 0-3 1-2 are alike
        duePost("0 with 2 before 0 with 3", four(9, 6, 6, 6, 6, 9), 54, "0-2 1-3");
        duePost("0 with 3 alone is least", four(9, 6, 5, 6, 6, 9), 52, "0-3 1-2");
        duePost("streets of no length", Nets.full(4, 0), 0, "0-1 2-3");
    }

    /** Four places by their streets 0-1, 0-2, 0-3, 1-2, 1-3, 2-3. */
    private static RoundBounds four(int ab, int ac, int ad, int bc, int bd, int cd) {
        return Nets.of(4, new int[][] {{0, 1, ab}, {0, 2, ac}, {0, 3, ad}, {1, 2, bc}, {1, 3, bd},
            {2, 3, cd}});
    }

    private void thenTheLeastOfThoseLeft() {
        document.says("Terms", "then the least of those that are left, and so on");
        StringBuilder due = new StringBuilder();
        for (int n = 4; n <= 12; n += 2) {
            RoundBounds x = Nets.full(n, 10);
            due.setLength(0);
            for (int a = 0; a < n; a += 2) {
                due.append(a == 0 ? "" : " ").append(a).append('-').append(a + 1);
            }
            duePost("all of " + n + " alike", x, 5L * n * (n - 1) + 5L * n, due.toString());
        }
        RoundBounds first = Nets.full(6, 10);
        Nets.street(first, 0, 5, 6);
        duePost("0 with 5 is given, the others are alike", first, 146 + 26, "0-5 1-2 3-4");
        RoundBounds second = Nets.full(8, 10);
        Nets.street(second, 0, 7, 6);
        Nets.street(second, 1, 6, 6);
        duePost("0 with 7 and 1 with 6 are given", second, 272 + 32, "0-7 1-6 2-3 4-5");
    }
}
