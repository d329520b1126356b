/** Each promise of the document by hand-made cases: ordinary ones, edges and wrong inputs. */
public final class PromisesTest {
    private static final Check CHECK = new Check();
    private static final int NONE = RoundBounds.NONE;
    private static final long AFTER_50_ROUNDS = 400 + 16 * 4 + 8 * 4 + 4 * 4 + 2 * 4 + 33;

    private PromisesTest() {
    }

    public static void main(String[] args) {
        newObject();
        way();
        tree();
        treeTies();
        treeSteps();
        rounds();
        assign();
        cut();
        postmanOverStreets();
        postmanOverWays();
        pair();
        greatest();
        linear();
        certificate();
        CHECK.end();
    }

    private static void newObject() {
        CHECK.due("NONE", NONE, -1);
        int[] stops = {Integer.MIN_VALUE, -1, 0, 2, 3, 4, 11, 12, 13, Integer.MAX_VALUE};
        int[] due = {3, 3, 3, 3, 3, 4, 11, 12, 12, 12};
        for (int i = 0; i < stops.length; i++) {
            RoundBounds x = new RoundBounds(stops[i]);
            String name = "new(" + stops[i] + ")";
            CHECK.due(name + " places", Nets.places(x), due[i]);
            CHECK.due(name + " tree", x.tree(1), NONE);
            CHECK.due(name + " rounds", x.rounds(), 0);
            CHECK.due(name + " assign", x.assign(), NONE);
            CHECK.due(name + " cut", x.cut(0, 1), 0);
            CHECK.due(name + " postman", x.postman(false), 0);
            CHECK.due(name + " directed", x.postman(true), 0);
            CHECK.due(name + " pair", x.pair(0, 0), NONE);
            CHECK.due(name + " greatest", x.greatest(), NONE);
            CHECK.due(name + " linear", x.linear(1), NONE);
            CHECK.due(name + " certificate", x.certificate(0), false);
        }
    }

    private static void way() {
        RoundBounds x = Nets.ring(3, 5);
        int[] wrong = {-1, 3, 12, Integer.MIN_VALUE, Integer.MAX_VALUE};
        for (int w : wrong) {
            CHECK.dueThrows("way(" + w + ", 0)", () -> x.way(w, 0, 1),
                    ArrayIndexOutOfBoundsException.class);
            CHECK.dueThrows("way(0, " + w + ")", () -> x.way(0, w, -1),
                    ArrayIndexOutOfBoundsException.class);
            CHECK.dueThrows("way(" + w + ", same)", () -> x.way(w, w, 1),
                    ArrayIndexOutOfBoundsException.class);
        }
        CHECK.due("after throws", x.postman(true), 15);
        x.way(1, 1, 3);
        x.way(0, 0, 0);
        CHECK.due("same place: directed", x.postman(true), 15);
        CHECK.due("same place: assign", x.assign(), 15);
        x.way(0, 1, 1000000L);
        CHECK.due("longest", x.assign(), 1000010L);
        x.way(0, 1, 0);
        CHECK.due("shortest", x.assign(), 10);
        long[] none = {-1, 1000001L, Long.MIN_VALUE, Long.MAX_VALUE, 1L << 32, -(1L << 32)};
        for (long t : none) {
            x.way(0, 1, 4);
            CHECK.due("way there", x.assign(), 14);
            x.way(0, 1, t);
            CHECK.due("no way with " + t, x.assign(), NONE);
            CHECK.due("no street with " + t, x.cut(0, 1), 5);
        }
        x.way(0, 1, 9);
        x.way(1, 0, 4);
        CHECK.due("a street is the lesser of both", x.cut(0, 1), 9);
        x.way(1, 0, 30);
        CHECK.due("the other is the lesser", x.cut(0, 1), 14);
        x.way(0, 1, -1);
        CHECK.due("one of both is left", x.cut(0, 1), 35);
        x.way(1, 0, -1);
        CHECK.due("none of both is left", x.cut(0, 1), 5);
    }

    private static void tree() {
        RoundBounds x = Nets.ring(3, 7);
        CHECK.due("ring of 3", x.tree(1), 21);
        CHECK.due("brought to 1: min", x.tree(Integer.MIN_VALUE), 21);
        CHECK.due("brought to 50: max", x.tree(Integer.MAX_VALUE), 21);
        x.way(0, 1, -1);
        CHECK.due("one street at place 0", x.tree(1), NONE);
        RoundBounds y = new RoundBounds(4);
        Nets.street(y, 0, 1, 1);
        Nets.street(y, 0, 2, 1);
        Nets.street(y, 0, 3, 1);
        Nets.street(y, 1, 2, 1);
        CHECK.due("the others are in two pieces", y.tree(50), NONE);
        y.way(3, 2, 0);
        CHECK.due("a street by one way alone, of length 0", y.tree(1), 3);
        int[][] uneven = {{0, 2, 1}, {0, 3, 2}, {0, 4, 3}, {1, 2, 2}, {1, 3, 1}, {1, 4, 3},
            {2, 3, 3}, {2, 4, 2}, {3, 4, 2}};
        RoundBounds odd = new RoundBounds(5);
        for (int[] s : uneven) {
            odd.way(s[0], s[1], s[2]);
        }
        CHECK.due("half of an odd worth, 17, rounded up", odd.tree(50), 9);
        CHECK.due("half of an odd worth: round", odd.rounds(), 18);
        RoundBounds zero = Nets.ring(5, 0);
        CHECK.due("all of length 0", zero.tree(50), 0);
        CHECK.due("all of length 0: round", zero.rounds(), 1);
        RoundBounds long12 = Nets.ring(12, 1000000L);
        CHECK.due("the longest", long12.tree(50), 12000000L);
    }

    /** Which of equal streets were taken shows in how the weights move from then on. */
    private static void treeTies() {
        RoundBounds x = new RoundBounds(5);
        for (int a = 0; a < 5; a++) {
            for (int b = a + 1; b < 5; b++) {
                Nets.street(x, a, b, 10);
            }
        }
        Plain plain = new Plain(5);
        for (int a = 0; a < 5; a++) {
            for (int b = 0; b < 5; b++) {
                plain.way(a, b, 10);
            }
        }
        for (int rounds = 1; rounds <= 50; rounds++) {
            CHECK.due("all equal, tree(" + rounds + ")", x.tree(rounds), plain.tree(rounds));
            CHECK.due("all equal, rounds of " + rounds, x.rounds(), plain.bestRound);
        }
    }

    private static void treeSteps() {
        RoundBounds x = Nets.hanging();
        // degrees: 0 has 2, 1 has 3, 2 has 2, 3 has 1: a round adds step * 2 to the next worth
        int[] steps = {16, 16, 16, 16, 8, 8, 8, 8, 4, 4, 4, 4, 2, 2, 2, 2, 1, 1, 1, 1, 1};
        long worth = 800;
        for (int rounds = 1; rounds <= steps.length; rounds++) {
            CHECK.due("steps: tree(" + rounds + ")", x.tree(rounds), (worth + 1) / 2);
            CHECK.due("steps: rounds of " + rounds, x.rounds(), rounds);
            worth += 2L * steps[rounds - 1];
        }
        CHECK.due("steps: tree(50)", x.tree(50), AFTER_50_ROUNDS);
        CHECK.due("steps: tree(51)", x.tree(51), AFTER_50_ROUNDS);
        CHECK.due("steps: rounds of 51", x.rounds(), 50);
        CHECK.due("each asking begins with weights of 0", x.tree(1), 400);
    }

    private static void rounds() {
        RoundBounds x = Nets.hanging();
        CHECK.due("rounds before any tree", x.rounds(), 0);
        x.greatest();
        x.linear(3);
        x.certificate(2);
        CHECK.due("what others ask does not count", x.rounds(), 0);
        x.tree(7);
        CHECK.due("rounds of tree(7)", x.rounds(), 7);
        x.greatest();
        x.linear(3);
        x.certificate(2);
        CHECK.due("what others ask still does not count", x.rounds(), 7);
        x.way(1, 3, -1);
        CHECK.due("a way changes nothing of it", x.rounds(), 7);
        x.way(3, 1, -1);
        CHECK.due("no tree any more", x.tree(7), NONE);
        CHECK.due("rounds when there was none", x.rounds(), 0);
        Nets.street(x, 1, 3, 100);
        x.tree(3);
        CHECK.due("rounds again", x.rounds(), 3);
    }

    private static void assign() {
        RoundBounds x = new RoundBounds(4);
        Nets.street(x, 0, 1, 3);
        CHECK.due("two places without a way", x.assign(), NONE);
        Nets.street(x, 2, 3, 4);
        CHECK.due("two pairs that go to and fro", x.assign(), 14);
        x.way(1, 2, 1);
        CHECK.due("a way that leads into nothing better", x.assign(), 14);
        x.way(3, 0, 1);
        CHECK.due("a round is cheaper", x.assign(), 9);
        RoundBounds star = new RoundBounds(12);
        for (int a = 1; a < 12; a++) {
            Nets.street(star, 0, a, 1);
        }
        CHECK.due("each has ways, but they want the same next", star.assign(), NONE);
        CHECK.due("the longest", Nets.ring(12, 1000000L).assign(), 12000000L);
        CHECK.due("no length at all", Nets.ring(12, 0).assign(), 0);
    }

    private static void cut() {
        RoundBounds x = new RoundBounds(5);
        Nets.street(x, 0, 1, 3);
        Nets.street(x, 0, 2, 2);
        Nets.street(x, 1, 2, 5);
        Nets.street(x, 1, 3, 2);
        Nets.street(x, 2, 3, 3);
        CHECK.due("cut(0, 3)", x.cut(0, 3), 5);
        CHECK.due("cut(3, 0)", x.cut(3, 0), 5);
        CHECK.due("cut(1, 2)", x.cut(1, 2), 9);
        CHECK.due("cut(0, 4), parted", x.cut(0, 4), 0);
        CHECK.due("cut(0, 0)", x.cut(0, 0), NONE);
        CHECK.due("cut(4, 4)", x.cut(4, 4), NONE);
        int[] wrong = {-1, 5, 12, Integer.MIN_VALUE, Integer.MAX_VALUE};
        for (int w : wrong) {
            CHECK.due("cut(" + w + ", 0)", x.cut(w, 0), NONE);
            CHECK.due("cut(0, " + w + ")", x.cut(0, w), NONE);
            CHECK.due("cut(" + w + ", same)", x.cut(w, w), NONE);
        }
        x.way(3, 4, 1000000L);
        CHECK.due("one way makes a street for both sides", x.cut(4, 3), 1000000L);
        CHECK.due("through it", x.cut(4, 0), 5);
        int[][] twisted = {{0, 1, 4}, {0, 2, 3}, {0, 3, 3}, {0, 5, 5}, {1, 2, 2}, {1, 4, 3},
            {1, 5, 3}, {2, 3, 4}, {2, 5, 4}, {4, 5, 4}};
        RoundBounds turned = new RoundBounds(6);
        for (int[] s : twisted) {
            turned.way(s[0], s[1], s[2]);
        }
        CHECK.due("what flows must turn round in a street", turned.cut(0, 5), 15);
        RoundBounds all = new RoundBounds(12);
        for (int a = 0; a < 12; a++) {
            for (int b = 0; b < a; b++) {
                all.way(a, b, 1000000L);
            }
        }
        CHECK.due("the widest", all.cut(0, 11), 11000000L);
    }

    private static void postmanOverStreets() {
        RoundBounds x = new RoundBounds(6);
        x.way(1, 2, 4);
        CHECK.due("one street, to and fro", x.postman(false), 8);
        CHECK.due("one street: pair", x.pair(0, 0) * 10 + x.pair(0, 1), 12);
        x.way(4, 5, 1);
        CHECK.due("two pieces", x.postman(false), NONE);
        x.way(2, 4, 10);
        CHECK.due("a path", x.postman(false), 30);
        x.way(5, 1, 100);
        CHECK.due("a ring needs nothing twice", x.postman(false), 115);
        CHECK.due("a ring: no pair", x.pair(0, 0), NONE);
        x.way(1, 4, 3);
        CHECK.due("a chord", x.postman(false), 121);
        CHECK.due("a chord: pair", x.pair(0, 0) * 10 + x.pair(0, 1), 14);
        RoundBounds z = new RoundBounds(3);
        z.way(0, 1, 0);
        CHECK.due("a street of length 0 counts", z.postman(false), 0);
        CHECK.due("its ends are odd", z.pair(0, 0) * 10 + z.pair(0, 1), 1);
        RoundBounds detour = new RoundBounds(4);
        Nets.street(detour, 0, 1, 50);
        Nets.street(detour, 0, 2, 1);
        Nets.street(detour, 2, 1, 1);
        Nets.street(detour, 0, 3, 1);
        Nets.street(detour, 3, 1, 1);
        CHECK.due("the shortest way is not the street", detour.postman(false), 56);
    }

    private static void postmanOverWays() {
        RoundBounds x = new RoundBounds(5);
        x.way(0, 1, 1);
        CHECK.due("no way back", x.postman(true), NONE);
        x.way(1, 0, 2);
        CHECK.due("there and back", x.postman(true), 3);
        x.way(2, 3, 1);
        x.way(3, 2, 1);
        CHECK.due("two pieces", x.postman(true), NONE);
        x.way(1, 2, 5);
        CHECK.due("no way back over the bridge", x.postman(true), NONE);
        x.way(3, 0, 7);
        // one more comes to 0 and to 2 than goes, one more goes from 1 and 3: 0 -> 1, 2 -> 3 again
        CHECK.due("joined", x.postman(true), 17 + 2);
        x.way(0, 4, 1);
        CHECK.due("a blind end", x.postman(true), NONE);
        x.way(4, 0, 0);
        CHECK.due("a blind end with a way back of length 0", x.postman(true), 20);
        RoundBounds fan = new RoundBounds(4);
        fan.way(0, 1, 1);
        fan.way(0, 2, 1);
        fan.way(0, 3, 1);
        fan.way(1, 2, 1);
        fan.way(2, 3, 1);
        fan.way(3, 0, 10);
        // 0 sends three and gets one: 3 -> 0 is gone twice more, and one more comes from 2 to 3
        CHECK.due("fan", fan.postman(true), 15 + 2 * 10 + 1);
        CHECK.due("directed keeps no pairs", fan.pair(0, 0), NONE);
    }

    private static void pair() {
        RoundBounds x = new RoundBounds(4);
        for (int a = 0; a < 4; a++) {
            for (int b = 0; b < a; b++) {
                x.way(a, b, 10);
            }
        }
        CHECK.due("pair before postman", x.pair(0, 0), NONE);
        CHECK.due("all equal", x.postman(false), 80);
        int[][] due = {{0, 1}, {2, 3}};
        checkPairs("the least go together", x, due);
        x.way(1, 0, 12);
        x.postman(false);
        checkPairs("0 with 2 is cheaper", x, new int[][] {{0, 2}, {1, 3}});
        x.postman(true);
        checkPairs("directed changes nothing", x, new int[][] {{0, 2}, {1, 3}});
        x.way(2, 0, 13);
        checkPairs("a way changes nothing", x, new int[][] {{0, 2}, {1, 3}});
        x.postman(false);
        checkPairs("0 with 3 is cheapest", x, new int[][] {{0, 3}, {1, 2}});
        for (int a = 0; a < 4; a++) {
            for (int b = 0; b < 4; b++) {
                if (a + b != 1 && a + b != 5) {
                    x.way(a, b, -1);
                }
            }
        }
        CHECK.due("two pieces", x.postman(false), NONE);
        checkPairs("a refusal changes nothing", x, new int[][] {{0, 3}, {1, 2}});
        x.way(1, 0, -1);
        x.way(3, 2, -1);
        CHECK.due("no street", x.postman(false), 0);
        checkPairs("no street, no pair", x, new int[0][0]);
    }

    private static void checkPairs(String name, RoundBounds x, int[][] due) {
        for (int i = 0; i < due.length; i++) {
            for (int side = 0; side < 2; side++) {
                CHECK.due(name + ": pair(" + i + ", " + side + ")", x.pair(i, side), due[i][side]);
            }
        }
        int[] wrong = {-1, due.length, due.length + 1, 6, Integer.MIN_VALUE, Integer.MAX_VALUE};
        for (int w : wrong) {
            CHECK.due(name + ": pair(" + w + ", 0)", x.pair(w, 0), NONE);
            CHECK.due(name + ": pair(" + w + ", 1)", x.pair(w, 1), NONE);
        }
        int[] sides = {-1, 2, Integer.MIN_VALUE, Integer.MAX_VALUE};
        for (int side : sides) {
            CHECK.due(name + ": pair(0, " + side + ")", x.pair(0, side), NONE);
        }
    }

    private static void greatest() {
        RoundBounds x = new RoundBounds(4);
        Nets.street(x, 0, 1, 1);
        Nets.street(x, 2, 3, 1);
        CHECK.due("an assignment, but no tree: assign", x.assign(), 4);
        CHECK.due("an assignment, but no tree", x.greatest(), NONE);
        Nets.street(x, 1, 2, 50);
        Nets.street(x, 3, 0, 50);
        CHECK.due("the tree is greater", x.greatest(), 102);
        CHECK.due("assign is less", x.assign(), 4);
        RoundBounds y = Nets.ring(4, 10);
        y.way(0, 2, 1);
        y.way(1, 3, 1);
        CHECK.due("the tree is less", y.tree(50) < 40, true);
        CHECK.due("assign is greater", y.greatest(), 40);
        RoundBounds z = new RoundBounds(4);
        z.way(0, 1, 1);
        z.way(0, 2, 1);
        z.way(1, 2, 1);
        z.way(2, 3, 1);
        CHECK.due("a tree, but no assignment: tree", z.tree(1), 4);
        CHECK.due("a tree, but no assignment", z.greatest(), NONE);
        RoundBounds more = Nets.hanging();
        CHECK.due("50 rounds are asked for", more.greatest(), AFTER_50_ROUNDS);
        CHECK.due("assign is less than that", more.assign(), 400);
    }

    private static void linear() {
        RoundBounds x = Nets.ring(3, 7);
        CHECK.due("linear(1)", x.linear(1), 21000);
        CHECK.due("linear(2)", x.linear(2), 10500);
        CHECK.due("linear(8)", x.linear(8), 2625);
        CHECK.due("linear(11)", x.linear(11), 1909);
        CHECK.due("linear(-11), towards 0", x.linear(-11), -1909);
        CHECK.due("linear(-1)", x.linear(-1), -21000);
        CHECK.due("linear(max)", x.linear(Integer.MAX_VALUE), 0);
        CHECK.due("linear(min)", x.linear(Integer.MIN_VALUE), 0);
        CHECK.dueThrows("linear(0)", () -> x.linear(0), ArithmeticException.class);
        CHECK.due("after the throw", x.linear(1), 21000);
        CHECK.due("after the throw: rounds", x.rounds(), 0);
        RoundBounds zero = Nets.ring(3, 0);
        CHECK.due("of 0", zero.linear(5), 0);
        CHECK.dueThrows("linear(0) of 0", () -> zero.linear(0), ArithmeticException.class);
        x.way(0, 1, -1);
        CHECK.due("linear(0) of NONE", x.linear(0), NONE);
        CHECK.due("linear(5) of NONE", x.linear(5), NONE);
        CHECK.due("the longest", Nets.ring(12, 1000000L).linear(1), 12000000000L);
    }

    private static void certificate() {
        RoundBounds x = Nets.ring(5, 3);
        // of the 24 rows only 0 1 2 3 4 has its ways
        for (int p = 0; p < 24; p++) {
            CHECK.due("ring: certificate(" + p + ")", x.certificate(p), p == 0);
            CHECK.due("ring: certificate(" + p + " + 24)", x.certificate(p + 24), p == 0);
            CHECK.due("ring: with the sign bit, " + p,
                    x.certificate(p + 16 + Integer.MIN_VALUE), (p + 16) % 24 == 0);
        }
        RoundBounds back = new RoundBounds(5);
        int[] row = {0, 2, 4, 1, 3};
        for (int i = 0; i < 5; i++) {
            back.way(row[i], row[(i + 1) % 5], 1);
        }
        // 2 is the 1st of 1 2 3 4 (from 0), 4 the 2nd of 1 3 4, 1 the 0th, 3 the 0th: 6 + 4
        for (int p = 0; p < 24; p++) {
            CHECK.due("2 4 1 3: certificate(" + p + ")", back.certificate(p), p == 10);
        }
        RoundBounds last = new RoundBounds(12);
        for (int a = 0; a < 12; a++) {
            last.way(a, (a + 11) % 12, 9);
        }
        CHECK.due("the last row of 11!", last.certificate(39916799), true);
        CHECK.due("the row before it", last.certificate(39916798), false);
        CHECK.due("the first row", last.certificate(0), false);
        CHECK.due("-1 is 2147483647", last.certificate(-1), false);
        RoundBounds any = new RoundBounds(3);
        Nets.street(any, 0, 1, 1);
        Nets.street(any, 1, 2, 1);
        any.way(2, 0, 1);
        CHECK.due("the way home is there", any.certificate(0), true);
        CHECK.due("the way out is not", any.certificate(1), false);
        CHECK.due("the sign bit alone is 0", any.certificate(Integer.MIN_VALUE), true);
        CHECK.due("the greatest is odd", any.certificate(Integer.MAX_VALUE), false);
    }
}
