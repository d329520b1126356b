import java.io.IOException;
import java.nio.file.Files;
import java.nio.file.Path;
import java.util.ArrayList;
import java.util.List;
import java.util.Set;
import java.util.TreeSet;
import java.util.concurrent.ExecutorService;
import java.util.concurrent.Executors;
import java.util.concurrent.Future;

/**
 * Says of each citation whether its test would fail: the class is broken in one place, and the
 * test is run with it. In src/test/breaks.txt a break is four lines: a test, a section and the
 * words it cites, parted by bars; what stands in the source once; what is put there instead; and
 * an empty line.
 */
public final class BrokenTest {
    private static final Check CHECK = new Check();
    private static final Path BREAKS = Path.of("src/test/breaks.txt");
    private static final int MOST_AT_ONCE = 8;

    private final String source;
    private final String document;

    /** A test must find, under these words, that this was put into the source for that. */
    record Break(String test, String section, String words, String old, String put) {
        String name() {
            return test + ", " + section + " '" + words + "', " + put.strip();
        }
    }

    private BrokenTest(String source, String document) {
        this.source = source;
        this.document = document;
    }

    public static void main(String[] args) throws Exception {
        String path = args.length > 0 ? args[0] : "src/main/java/RoundBounds.java";
        BrokenTest test = new BrokenTest(Files.readString(Path.of(path)),
                args.length > 1 ? args[1] : "../shared/DOC.md");
        List<Break> breaks = readBreaks();
        dueOneForEach(new SentenceMap(new Document(args)).citations(), breaks);
        test.tryAll(breaks);
        CHECK.end();
    }

    private static List<Break> readBreaks() throws IOException {
        List<Break> breaks = new ArrayList<>();
        for (String part : Files.readString(BREAKS).strip().split("\n\n+")) {
            String[] lines = part.split("\n");
            String[] head = lines[0].split(" \\| ");
            boolean whole = lines.length == 3 && head.length == 3
                    && lines[1].startsWith("- ") && lines[2].startsWith("+ ");
            CHECK.due("breaks.txt: " + lines[0] + " is whole", whole, true);
            if (whole) {
                breaks.add(new Break(head[0], head[1], head[2], lines[1].substring(2),
                        lines[2].substring(2)));
            }
        }
        return breaks;
    }

    private static void dueOneForEach(List<SentenceMap.Citation> citations, List<Break> breaks) {
        Set<String> cited = new TreeSet<>();
        for (SentenceMap.Citation c : citations) {
            cited.add(c.test() + ", " + c.section() + " '" + c.words() + "'");
        }
        Set<String> broken = new TreeSet<>();
        for (Break b : breaks) {
            broken.add(b.test() + ", " + b.section() + " '" + b.words() + "'");
        }
        for (String citation : cited) {
            CHECK.due("breaks.txt has a break for " + citation, broken.contains(citation), true);
        }
        for (String citation : broken) {
            CHECK.due("a test cites what is broken: " + citation, cited.contains(citation), true);
        }
    }

    private void tryAll(List<Break> breaks) throws Exception {
        int atOnce = Math.min(MOST_AT_ONCE, Runtime.getRuntime().availableProcessors());
        ExecutorService workers = Executors.newFixedThreadPool(atOnce);
        List<Future<String>> outcomes = new ArrayList<>();
        for (Break b : breaks) {
            outcomes.add(workers.submit(() -> outcome(b)));
        }
        for (int i = 0; i < breaks.size(); i++) {
            CHECK.due(breaks.get(i).name(), outcomes.get(i).get(), "found");
        }
        workers.shutdown();
    }

    private String outcome(Break b) throws IOException, InterruptedException {
        int at = source.indexOf(b.old());
        if (at < 0 || source.indexOf(b.old(), at + 1) >= 0) {
            return "does not stand in the source once: " + b.old();
        }
        Machine machine = new Machine();
        String said = machine.compile("RoundBounds", source.substring(0, at) + b.put()
                + source.substring(at + b.old().length()));
        if (said.isEmpty()) {
            Machine.Run run = machine.run(b.test(),
                    new String[] {machine.source("RoundBounds").toString(), document});
            boolean named = run.said().lines().anyMatch(
                    line -> line.startsWith(b.section() + " '" + b.words() + "': "));
            said = run.code() == 1 && named ? "found" : "ended with " + run.code() + ": "
                    + run.said().lines().limit(3).toList();
        }
        machine.remove();
        return said;
    }
}
