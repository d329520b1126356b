import java.io.IOException;
import java.nio.file.Files;
import java.util.List;

/** Each word of the document is held by a test, and SENTENCES.md says by which. */
public final class SentenceMapTest {
    private static final Check CHECK = new Check();
    /** What promises nothing, so that no test can fail by it. */
    private static final String FREE_IN_FIRST = "; what later calls answer is free.";
    private static final String ALL_FREE = "Not promised";

    private SentenceMapTest() {
    }

    public static void main(String[] args) throws IOException {
        Document document = new Document(args);
        SentenceMap map = new SentenceMap(document);
        CHECK.due("sections", document.names().size(), 15);
        for (String section : document.names()) {
            if (!section.equals(ALL_FREE)) {
                CHECK.due(section + ": words that no test cites", wordsLeft(map, section), "");
            }
        }
        for (SentenceMap.Citation c : map.citations()) {
            dueRun(c);
        }
        dueSameLines(map.text(), Files.readString(SentenceMap.FILE));
        CHECK.end();
    }

    /** A promise's member stands before its words as code: FaceTest holds it. */
    private static String wordsLeft(SentenceMap map, String section) {
        String left = map.notCited(section).replaceAll("```java|`[^`]+`", "");
        if (left.endsWith(FREE_IN_FIRST)) {
            left = left.substring(0, left.length() - FREE_IN_FIRST.length());
        }
        return left.replaceAll("[^A-Za-z0-9]+", " ").strip();
    }

    private static void dueRun(SentenceMap.Citation c) throws IOException {
        String source = Files.readString(SentenceMap.TESTS.resolve(c.test() + ".java"));
        CHECK.due(c.test() + " runs " + c.method(),
                source.contains("document.run(test::" + c.method() + ");"), true);
    }

    private static void dueSameLines(String due, String got) {
        List<String> dueLines = due.lines().toList();
        List<String> gotLines = got.lines().toList();
        CHECK.due("SENTENCES.md: lines", gotLines.size(), dueLines.size());
        for (int i = 0; i < Math.min(dueLines.size(), gotLines.size()); i++) {
            CHECK.due("SENTENCES.md, line " + (i + 1), gotLines.get(i), dueLines.get(i));
        }
    }
}
