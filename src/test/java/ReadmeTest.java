import java.io.IOException;
import java.nio.file.Files;
import java.nio.file.Path;
import java.util.ArrayList;
import java.util.List;
import java.util.Set;
import java.util.TreeSet;
import java.util.regex.Matcher;
import java.util.regex.Pattern;
import java.util.stream.Stream;

/**
 * The calls that README.md shows are made, and must answer what it says behind them. All that it
 * shows with arguments written out stands in its blocks of Java, one statement in a line:
 * a new object; way(), which answers nothing; or a call with its answer in the comment, as far as
 * the colon: a number, true, false, NONE, or what it throws.
 */
public final class ReadmeTest {
    private static final Check CHECK = new Check();
    private static final Path README = Path.of("README.md");
    private static final Pattern BLOCK = Pattern.compile("(?s)```(\\w*)\n(.*?)```");
    private static final Pattern NEW_OBJECT =
            Pattern.compile("RoundBounds \\w+ = new RoundBounds\\(-?\\d+\\); +// .+");
    private static final Pattern MEMBER = Pattern.compile("public \\w+ (\\w+)\\(");
    private static final Pattern CALL = Pattern.compile("\\w+\\.(\\w+)\\([^()]*\\);");
    private static final Pattern ANSWERED = Pattern.compile(
            "(\\w+\\.(\\w+)\\([^()]*\\));\\s*// (-?\\d+|true|false|NONE|throws \\w+)(:.*)?");

    private final List<String> statements = new ArrayList<>();
    private final List<String> lines = new ArrayList<>();
    private final List<String> due = new ArrayList<>();
    private final Set<String> shown = new TreeSet<>();
    private final Set<String> kinds = new TreeSet<>();

    private ReadmeTest() {
    }

    public static void main(String[] args) throws Exception {
        ReadmeTest test = new ReadmeTest();
        String text = Files.readString(README);
        test.readBlocks(text);
        test.makeCalls();
        test.dueAllCalls(text, new Document(args));
        test.dueNoOtherCalls(text);
        test.dueAllTests(text);
        CHECK.end();
    }

    private void readBlocks(String text) {
        Matcher block = BLOCK.matcher(text);
        while (block.find()) {
            if (block.group(1).equals("java")) {
                statements.add("{");
                for (String line : block.group(2).split("\n")) {
                    readLine(line.strip());
                }
                statements.add("}");
            }
        }
    }

    private void readLine(String line) {
        Matcher answered = ANSWERED.matcher(line);
        Matcher call = CALL.matcher(line);
        if (answered.matches()) {
            addAnswered(line, answered);
        } else if (NEW_OBJECT.matcher(line).matches()) {
            statements.add(line);
        } else if (call.lookingAt() && call.group(1).equals("way")) {
            shown.add("way");
            statements.add(line);
        } else {
            CHECK.due("README.md: a line has an answer or needs none: " + line, line, "");
        }
    }

    private void addAnswered(String line, Matcher answered) {
        boolean isVoid = answered.group(2).equals("way");
        lines.add(line);
        due.add(answered.group(3).equals("NONE") ? "-1" : answered.group(3));
        shown.add(answered.group(2));
        kinds.add(answered.group(2) + " " + answered.group(3));
        String made = isVoid ? answered.group(1) + "; System.out.println(\"nothing\");"
                : "System.out.println(" + answered.group(1) + ");";
        statements.add("try { " + made + " } catch (RuntimeException e) {"
                + " System.out.println(\"throws \" + e.getClass().getSimpleName()); }");
    }

    private void makeCalls() throws IOException, InterruptedException {
        Machine machine = new Machine();
        CHECK.due("README.md's calls", machine.compile("ReadmeCalls",
                "public final class ReadmeCalls {\npublic static void main(String[] args) {\n"
                + String.join("\n", statements) + "\n}\n}\n"), "");
        String[] said = machine.run("ReadmeCalls", new String[0]).said().split("\n");
        machine.remove();
        CHECK.due("README.md's answers", said.length, due.size());
        for (int i = 0; i < due.size() && i < said.length; i++) {
            CHECK.due("README.md: " + lines.get(i), said[i], due.get(i));
        }
    }

    /** Each call of the face is shown, and each kind of refusal and of throw. */
    private void dueAllCalls(String text, Document document) {
        int calls = 0;
        for (String line : document.block("The public face")) {
            Matcher member = MEMBER.matcher(line);
            if (member.lookingAt()) {
                calls++;
                String name = member.group(1);
                CHECK.due("README.md shows " + name, shown.contains(name), true);
                CHECK.due("README.md has a row for " + name, text.contains("\n| `" + name + "("),
                        true);
            }
        }
        CHECK.due("calls of the face", calls, 10);
        String[] wanted = {"way throws ArrayIndexOutOfBoundsException", "tree NONE",
            "assign NONE", "cut NONE", "postman NONE", "pair NONE", "greatest NONE", "linear NONE",
            "linear throws ArithmeticException", "certificate true", "certificate false"};
        for (String kind : wanted) {
            CHECK.due("README.md shows: " + kind, kinds.contains(kind), true);
        }
    }

    /** What stands in the text beside the blocks has no written out arguments to be tried. */
    private void dueNoOtherCalls(String text) {
        Matcher found = Pattern.compile("\\b(\\w+)\\((-?\\d|true|false)[^)]*\\)")
                .matcher(BLOCK.matcher(text).replaceAll(""));
        while (found.find()) {
            CHECK.due("README.md: a call beside the blocks", found.group(), "none");
        }
    }

    private void dueAllTests(String text) throws IOException {
        Set<String> there = new TreeSet<>();
        try (Stream<Path> files = Files.list(SentenceMap.TESTS)) {
            files.forEach(f -> there.add(SentenceMap.nameOf(f)));
        }
        for (String name : there) {
            CHECK.due("README.md says what " + name + " is for",
                    text.contains("\n| `" + name + "` |"), true);
        }
        Matcher named = Pattern.compile("\n\\| `(\\w+)` \\|").matcher(text);
        while (named.find()) {
            CHECK.due("README.md: is there a " + named.group(1), there.contains(named.group(1)),
                    true);
        }
    }
}
