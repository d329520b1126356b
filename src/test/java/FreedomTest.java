import java.io.IOException;
import java.nio.file.Files;
import java.nio.file.Path;
import java.util.regex.Matcher;
import java.util.regex.Pattern;

/**
 * What is not promised is free: all tests pass as well with a class whose objects answer anything
 * from their 513th call on, take their time, and are held, shown and compared in another way.
 */
public final class FreedomTest {
    private static final Check CHECK = new Check();
    private static final Pattern MEMBER =
            Pattern.compile("public (void|int|long|boolean) (\\w+)\\(([^)]*)\\)[^;]*;");
    private static final String FREE_HEAD = """
            public final class RoundBounds {
                public static final int NONE = -1;
                private final RoundBoundsHeld held;
                private final long[] more = new long[100];
                private int calls;

                public RoundBounds(int stops) {
                    held = new RoundBoundsHeld(stops);
                }

                private boolean isFree() {
                    for (int turn = 0; turn < 1000; turn++) {
                        more[turn % more.length] += turn;
                    }
                    calls++;
                    return calls > 512;
                }

                private long anything() {
                    return 777000 + calls;
                }

                public String toString() {
                    return "free";
                }

                public boolean equals(Object other) {
                    return calls % 2 == 0;
                }

                public int hashCode() {
                    return calls;
                }
            """;

    private FreedomTest() {
    }

    public static void main(String[] args) throws Exception {
        String path = args.length > 0 ? args[0] : "src/main/java/RoundBounds.java";
        String held = Files.readString(Path.of(path))
                .replaceAll("\\bRoundBounds\\b", "RoundBoundsHeld");
        Machine machine = new Machine();
        CHECK.due("what is held", machine.compile("RoundBoundsHeld", held), "");
        CHECK.due("the free class", machine.compile("RoundBounds", free(new Document(args))), "");
        for (Path file : SentenceMap.testFiles()) {
            String name = SentenceMap.nameOf(file);
            if (restsOnAnswersAlone(name)) {
                Machine.Run run = machine.run(name, args);
                CHECK.due(name + " with the free class: " + run.said().lines().limit(5).toList(),
                        run.code(), 0);
            }
        }
        dueFree(machine, args);
        machine.remove();
        CHECK.end();
    }

    /** The face has no toString of its own; the others look at no object. */
    private static boolean restsOnAnswersAlone(String name) {
        return switch (name) {
            case "FaceTest", "LanguageTest", "SentenceMapTest", "BrokenTest", "FreedomTest" ->
                    false;
            default -> true;
        };
    }

    private static String free(Document document) {
        StringBuilder text = new StringBuilder(FREE_HEAD);
        int calls = 0;
        for (String line : document.block("The public face")) {
            Matcher member = MEMBER.matcher(line);
            if (member.matches()) {
                calls++;
                text.append(freeCall(line.replace(";", ""), member));
            }
        }
        CHECK.due("calls that are free", calls, 10);
        return text.append("}\n").toString();
    }

    private static String freeCall(String head, Matcher member) {
        String type = member.group(1);
        String anything = switch (type) {
            case "void" -> "";
            case "boolean" -> "anything() % 3 == 0";
            default -> "(" + type + ") anything()";
        };
        String names = member.group(3).replaceAll("\\w+ (\\w+)", "$1");
        return "\n" + head + " {\nif (isFree()) {\nreturn " + anything + ";\n}\n"
                + (type.equals("void") ? "" : "return ")
                + "held." + member.group(2) + "(" + names + ");\n}\n";
    }

    /** Else this test would show nothing: the 513th call must be another one than it was. */
    private static void dueFree(Machine machine, String[] args)
            throws IOException, InterruptedException {
        CHECK.due("a program of 513 calls", machine.compile("Calls513", """
                public final class Calls513 {
                    public static void main(String[] args) {
                        RoundBounds x = new RoundBounds(3);
                        for (int call = 1; call <= 511; call++) {
                            x.linear(call);
                        }
                        System.out.println(x.assign() + " " + x.assign());
                    }
                }
                """), "");
        CHECK.due("the 512th and the 513th call", machine.run("Calls513", args).said().strip(),
                "-1 777513");
    }
}
