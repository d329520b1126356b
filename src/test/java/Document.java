import java.io.IOException;
import java.nio.file.Files;
import java.nio.file.Path;
import java.util.ArrayList;
import java.util.LinkedHashMap;
import java.util.List;
import java.util.Map;
import java.util.regex.Matcher;
import java.util.regex.Pattern;

/** The document by its sections; a section's name is its heading as far as the colon. */
final class Document {
    private static final String FENCE = "```";
    /** After a full stop; a heading word like 'TREES.' belongs to what follows it. */
    private static final Pattern BETWEEN_SENTENCES =
            Pattern.compile("(?<=[a-z0-9)]\\.|\\.\\)) (?=[A-Z(`])");
    private static final Pattern CODE = Pattern.compile("`[^`]+`");

    private final Map<String, String> sections = new LinkedHashMap<>();

    /** The second argument of each test is the document's path. */
    Document(String[] args) throws IOException {
        String path = args.length > 1 ? args[1] : "../shared/DOC.md";
        String[] parts = Files.readString(Path.of(path)).split("\n## ");
        for (int i = 1; i < parts.length; i++) {
            int end = parts[i].indexOf('\n');
            String heading = parts[i].substring(0, end);
            sections.put(heading.split(":")[0], parts[i].substring(end + 1));
        }
    }

    List<String> names() {
        return List.copyOf(sections.keySet());
    }

    boolean says(String section, String words) {
        return text(section).contains(words);
    }

    /** A section in one line; empty, if there is none such. */
    String text(String section) {
        return sections.getOrDefault(section, "").replaceAll("\\s+", " ").strip();
    }

    /** A block of code counts as one sentence. */
    List<String> sentences(String section) {
        String text = text(section);
        return text.startsWith(FENCE) ? List.of(text)
                : List.of(BETWEEN_SENTENCES.split(text));
    }

    /** The lines of a section's block of code, without the fences and the language's name. */
    List<String> block(String section) {
        String[] parts = sections.getOrDefault(section, "").split(FENCE);
        List<String> lines = new ArrayList<>();
        if (parts.length > 1) {
            String[] all = parts[1].split("\n");
            for (int i = 1; i < all.length; i++) {
                lines.add(all[i].strip());
            }
        }
        return lines;
    }

    /** What stands in a section as code within a sentence, without its marks. */
    List<String> code(String section) {
        List<String> found = new ArrayList<>();
        Matcher matcher = CODE.matcher(text(section));
        while (matcher.find()) {
            found.add(matcher.group().replace("`", ""));
        }
        return found;
    }
}
