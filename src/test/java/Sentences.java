import java.io.IOException;

/**
 * Holds a test to the document: each check stands under words of one of its sections, which must
 * be found there, so that the sentence leads to its test and back.
 */
final class Sentences {
    private final Check check = new Check();
    private final Document document;
    private String under = "";
    private int seenBefore = 0;

    Sentences(String[] args) throws IOException {
        document = new Document(args);
    }

    /** What one test throws is counted under its sentence, and does not keep others from theirs. */
    void run(Runnable test) {
        try {
            test.run();
        } catch (RuntimeException e) {
            check.due(under + "a call threw", e.toString(), "nothing");
        }
    }

    void says(String section, String words) {
        dueSomething();
        under = section + " '" + words + "': ";
        check.due(under + "stands in the document", document.says(section, words), true);
        seenBefore = check.seen();
    }

    void due(String call, long got, long want) {
        check.due(under + call, got, want);
    }

    void due(String call, boolean got, boolean want) {
        check.due(under + call, got, want);
    }

    void due(String call, String got, String want) {
        check.due(under + call, got, want);
    }

    void dueThrows(String call, Runnable made, Class<? extends RuntimeException> want) {
        check.dueThrows(under + call, made, want);
    }

    void end() {
        dueSomething();
        check.end();
    }

    private void dueSomething() {
        if (!under.isEmpty() && check.seen() == seenBefore) {
            check.due(under + "is tested", false, true);
        }
    }
}
