/** Small nets that several tests use, and all that an object answers. */
final class Nets {
    private Nets() {
    }

    static void street(RoundBounds x, int a, int b, long t) {
        x.way(a, b, t);
        x.way(b, a, t);
    }

    /** Each row is a place, another and the length of the one way between them. */
    static RoundBounds of(int n, int[][] ways) {
        RoundBounds x = new RoundBounds(n);
        for (int[] way : ways) {
            x.way(way[0], way[1], way[2]);
        }
        return x;
    }

    /** All places in a ring, gone one way. */
    static RoundBounds ring(int n, long t) {
        RoundBounds x = new RoundBounds(n);
        for (int a = 0; a < n; a++) {
            x.way(a, (a + 1) % n, t);
        }
        return x;
    }

    /** Every way is there. */
    static RoundBounds full(int n, long t) {
        RoundBounds x = new RoundBounds(n);
        for (int a = 0; a < n; a++) {
            for (int b = 0; b < n; b++) {
                x.way(a, b, t);
            }
        }
        return x;
    }

    /** Place 3 hangs at 1 alone: its weight goes down for ever, and the worth goes up. */
    static RoundBounds hanging() {
        RoundBounds x = new RoundBounds(4);
        street(x, 0, 1, 100);
        street(x, 0, 2, 100);
        street(x, 1, 2, 100);
        street(x, 1, 3, 100);
        return x;
    }

    /** The lesser places of the pairs and the others, as they stand now: "0-3 1-2". */
    static String pairs(RoundBounds x) {
        StringBuilder text = new StringBuilder();
        for (int i = 0; i < 7; i++) {
            int lesser = x.pair(i, 0);
            int other = x.pair(i, 1);
            if (lesser != RoundBounds.NONE || other != RoundBounds.NONE) {
                text.append(i == 0 ? "" : " ").append(lesser).append('-').append(other);
            }
        }
        return text.toString();
    }

    /**
     * All that an object answers, by calls that leave its rounds and its pairs alone; some 110
     * calls for twelve places, so that two such and what lies between stay below 512.
     */
    static String answers(RoundBounds x, int n) {
        StringBuilder text = new StringBuilder();
        text.append("rounds ").append(x.rounds()).append(" pairs ").append(pairs(x));
        text.append(" assign ").append(x.assign()).append(" greatest ").append(x.greatest());
        text.append(" linear ").append(x.linear(7)).append(" post ").append(x.postman(true));
        text.append(" cuts");
        for (int a = 0; a < n; a++) {
            for (int b = 0; b < a; b++) {
                text.append(' ').append(x.cut(a, b));
            }
        }
        text.append(" rows");
        for (int p = 0; p < 24; p++) {
            text.append(x.certificate(p) ? '1' : '0');
        }
        return text.toString();
    }

    /** How many places there are, told by which of them way() takes. */
    static int places(RoundBounds x) {
        for (int a = 0; a < 100; a++) {
            try {
                x.way(a, a, 1);
            } catch (ArrayIndexOutOfBoundsException e) {
                return a;
            }
        }
        return 100;
    }
}
