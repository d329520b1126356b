import java.io.IOException;
import java.nio.file.Files;
import java.nio.file.Path;
import java.util.ArrayList;
import java.util.List;
import java.util.regex.Matcher;
import java.util.regex.Pattern;
import java.util.stream.Stream;

/**
 * Which test cites which sentence, read from the tests' source: as text, it is SENTENCES.md.
 * To write that file anew, see README.md.
 */
final class SentenceMap {
    static final Path FILE = Path.of("SENTENCES.md");
    static final Path TESTS = Path.of("src/test/java");
    private static final String HEAD = """
            # Which test would fail

            Each sentence of `../shared/DOC.md`, and under it the tests that hold it: each cites
            words of it (`document.says`), and fails when they are broken (`src/test/breaks.txt`
            has a break of the class for each citation, and `BrokenTest` tries them all). The
            member that stands before a promise's words, as code, is held by `FaceTest`.
            `SentenceMapTest` fails when this file is not in step with the document and the tests.
            """;
    private static final String FREE =
            "- none: it promises nothing, and no test rests on it (see `FreedomTest`).\n";
    /** Methods that are tests have no arguments; helpers that cite nothing are passed over. */
    private static final Pattern METHOD_OR_CITATION = Pattern.compile(
            "private void (\\w+)\\(\\) \\{"
            + "|document\\.says\\(\"([^\"]*)\",\\s*((?:\"[^\"]*\"[\\s+]*)+)\\)");

    /** Words of a section that a test's method cites. */
    record Citation(String section, String words, String test, String method) {
    }

    private final Document document;
    private final List<Citation> citations = new ArrayList<>();

    SentenceMap(Document document) throws IOException {
        this.document = document;
        for (Path file : testFiles()) {
            readCitations(file);
        }
    }

    public static void main(String[] args) throws IOException {
        System.out.print(new SentenceMap(new Document(args)).text());
    }

    static List<Path> testFiles() throws IOException {
        try (Stream<Path> files = Files.list(TESTS)) {
            return files.filter(f -> f.toString().endsWith("Test.java")).sorted().toList();
        }
    }

    static String nameOf(Path file) {
        return file.getFileName().toString().replace(".java", "");
    }

    List<Citation> citations() {
        return citations;
    }

    private void readCitations(Path file) throws IOException {
        String method = "";
        Matcher found = METHOD_OR_CITATION.matcher(Files.readString(file));
        while (found.find()) {
            if (found.group(1) != null) {
                method = found.group(1);
            } else {
                String words = found.group(3).strip().replaceAll("\"\\s*\\+\\s*\"", "");
                citations.add(new Citation(found.group(2), words.substring(1, words.length() - 1),
                        nameOf(file), method));
            }
        }
    }

    String text() {
        StringBuilder text = new StringBuilder(HEAD);
        for (String section : document.names()) {
            text.append("\n## ").append(section).append('\n');
            for (String sentence : document.sentences(section)) {
                text.append("\n> ").append(sentence).append("\n\n");
                List<Citation> holding = holding(section, sentence);
                for (Citation c : holding) {
                    text.append("- `").append(c.test()).append('.').append(c.method())
                            .append("`: ").append(c.words()).append('\n');
                }
                if (holding.isEmpty()) {
                    text.append(FREE);
                }
            }
        }
        return text.toString();
    }

    /** Words may reach over several sentences, or be a part of one. */
    List<Citation> holding(String section, String sentence) {
        List<Citation> found = new ArrayList<>();
        String text = document.text(section);
        int start = text.indexOf(sentence);
        for (Citation c : citations) {
            int at = c.section().equals(section) ? text.indexOf(c.words()) : -1;
            if (at >= 0 && at < start + sentence.length() && at + c.words().length() > start) {
                found.add(c);
            }
        }
        return found;
    }

    /** The section with what is cited blotted out. */
    String notCited(String section) {
        StringBuilder text = new StringBuilder(document.text(section));
        for (Citation c : citations) {
            int at = c.section().equals(section) ? document.text(section).indexOf(c.words()) : -1;
            for (int i = 0; at >= 0 && i < c.words().length(); i++) {
                text.setCharAt(at + i, ' ');
            }
        }
        return text.toString().replaceAll("\\s+", " ").strip();
    }
}
