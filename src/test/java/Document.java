import java.io.IOException;
import java.nio.file.Files;
import java.nio.file.Path;
import java.util.LinkedHashMap;
import java.util.Map;

/**
 * The words of ../shared/DOC.md, section by section. A test quotes the words that it looks at; at the
 * end no word of a promise may be left that no test has quoted.
 */
final class Document {
    private final Checks checks;
    private final Map<String, StringBuilder> unquoted = new LinkedHashMap<>();
    private final Map<String, String> sections = new LinkedHashMap<>();

    Document(Checks checks) {
        this.checks = checks;
        Path file = Path.of(System.getProperty("project.root", "."), "..", "shared", "DOC.md");
        try {
            read(Files.readString(file));
        } catch (IOException missing) {
            checks.holds("the document can be read at " + file, false);
        }
    }

    private void read(String text) {
        for (String section : text.split("(?m)^## ")) {
            int end = section.indexOf('\n');
            String title = section.substring(0, Math.max(0, end)).replaceAll(":.*", "").trim();
            boolean testedHere = title.startsWith("Promise ") || title.equals("Description");
            if (testedHere) {
                String words = plain(section.substring(end));
                sections.put(title, words);
                unquoted.put(title, new StringBuilder(words));
            }
        }
        checks.due("sections of the document", sections.size(), 32);
    }

    /** Leaves out what other tests look at: signatures (FaceTest) and examples (ExamplesTest). */
    private static String plain(String section) {
        return section
                .replaceAll("(?m)^`[^`]*`$", "")
                .replaceAll("(?m)^(Examples:|\\d+\\. ).*$", "")
                .replaceAll("(?m)^---- .*$", "")
                .replaceAll("(?m)^- ", "")
                .replace("`", "")
                .replaceAll("\\s+", " ");
    }

    void quote(String title, String words) {
        String section = sections.getOrDefault(title, "");
        int at = section.indexOf(words);
        checks.holds(title + " says: " + words, at >= 0);
        for (int i = Math.max(0, at); at >= 0 && i < at + words.length(); i++) {
            unquoted.get(title).setCharAt(i, ' ');
        }
    }

    void end() {
        for (Map.Entry<String, StringBuilder> section : unquoted.entrySet()) {
            String left = section.getValue().toString().replaceAll("[^A-Za-z0-9]+", " ").trim();
            checks.holds(section.getKey() + " has a test for each word, also for: " + left, left.isEmpty());
        }
    }
}
