import java.io.IOException;
import java.io.UncheckedIOException;
import java.nio.file.Files;
import java.nio.file.Path;
import java.util.LinkedHashMap;
import java.util.List;
import java.util.Map;

/**
 * The words of ../shared/DOC.md, section by section. A test quotes the words that it looks at; at the
 * end no word may be left that no test has quoted.
 */
final class Document {
    private static final int PROMISES = 31;
    // Titles of sections without promises whose words are quoted too.
    private static final List<String> OTHERS = List.of("What it is", "Description", "Not promised");
    // FaceTest looks at this one.
    static final String FACE = "The public face";

    private final Checks checks;
    private final Map<String, StringBuilder> unquoted = new LinkedHashMap<>();
    private final Map<String, String> sections = new LinkedHashMap<>();

    Document(Checks checks) {
        this.checks = checks;
        Map<String, String> texts = read();
        checks.due("sections of the document", texts.size(), PROMISES + OTHERS.size() + 1);
        for (Map.Entry<String, String> text : texts.entrySet()) {
            String title = text.getKey();
            if (!title.equals(FACE)) {
                checks.holds("a known section: " + title, title.startsWith("Promise ") || OTHERS.contains(title));
                String words = plain(text.getValue());
                sections.put(title, words);
                unquoted.put(title, new StringBuilder(words));
            }
        }
    }

    /** Answers the text of a section as it stands in the document, or an empty text. */
    static String section(String title) {
        return read().getOrDefault(title, "");
    }

    /** Answers the text of each section behind its title, as 'Promise 7' or 'Description'. */
    static Map<String, String> read() {
        Map<String, String> texts = new LinkedHashMap<>();
        Path file = Path.of(System.getProperty("project.root", "."), "..", "shared", "DOC.md");
        try {
            String[] parts = Files.readString(file).split("(?m)^## ");
            // What stands before the first section is the title of the document.
            for (int i = 1; i < parts.length; i++) {
                int end = parts[i].indexOf('\n');
                texts.put(parts[i].substring(0, end).replaceAll(":.*", "").trim(), parts[i].substring(end));
            }
        } catch (IOException missing) {
            throw new UncheckedIOException("the document can't be read at " + file, missing);
        }
        return texts;
    }

    /** Leaves out what other tests look at: signatures (FaceTest) and examples (ExamplesTest). */
    private static String plain(String section) {
        return section
                .replaceAll("(?m)^`[^`]*`$", "")
                .replaceAll("(?m)^(Examples:|\\d+\\. ).*$", "")
                .replaceAll("(?m)^---- .*$", "")
                .replaceAll("(?m)^- ", "")
                .replace("`", "")
                .replaceAll("\\s+", " ");
    }

    void quote(String title, String words) {
        String section = sections.getOrDefault(title, "");
        int at = section.indexOf(words);
        checks.holds(title + " says: " + words, at >= 0);
        for (int i = Math.max(0, at); at >= 0 && i < at + words.length(); i++) {
            unquoted.get(title).setCharAt(i, ' ');
        }
    }

    void end() {
        for (Map.Entry<String, StringBuilder> section : unquoted.entrySet()) {
            String left = section.getValue().toString().replaceAll("[^A-Za-z0-9]+", " ").trim();
            checks.holds(section.getKey() + " has a test for each word, also for: " + left, left.isEmpty());
        }
    }
}
