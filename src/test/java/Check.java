/** Counts and prints the answers that are not the ones due. */
final class Check {
    private int wrong = 0;
    private int seen = 0;

    void due(String call, long got, long want) {
        seen++;
        if (got != want) {
            wrong++;
            System.out.println(call + " answered " + got + ", due is " + want);
        }
    }

    void due(String call, boolean got, boolean want) {
        due(call, got ? 1 : 0, want ? 1 : 0);
    }

    void due(String call, String got, String want) {
        seen++;
        if (!got.equals(want)) {
            wrong++;
            System.out.println(call + " answered " + got + ", due is " + want);
        }
    }

    /** What a call throws must be just this class, not one below or above it. */
    void dueThrows(String call, Runnable made, Class<? extends RuntimeException> want) {
        String got = "nothing";
        try {
            made.run();
        } catch (RuntimeException e) {
            got = e.getClass().getName();
            StackTraceElement[] trace = e.getStackTrace();
            due(call + ": thrown by the class itself",
                    trace.length > 0 && trace[0].getClassName().startsWith("RoundBounds"), true);
            due(call + ": thrown by the machine", isOfTheMachine(e.getMessage()), false);
        }
        due(call + " throws", got, want.getName());
    }

    private static boolean isOfTheMachine(String text) {
        return text != null && (text.contains("out of bounds for") || text.equals("/ by zero"));
    }

    int seen() {
        return seen;
    }

    void end() {
        System.out.println(seen + " answers, " + wrong + " not as due");
        if (wrong != 0) {
            System.exit(1);
        }
    }
}
