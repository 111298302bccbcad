import java.io.IOException;
import java.nio.file.Files;
import java.nio.file.Path;

/** The document's text, so that a test can only quote what stands there. */
final class Document {
    private static final Path FILE = Path.of("../shared/DOC.md");
    private static final String TEXT = read();

    private Document() {
    }

    private static String read() {
        try {
            return Files.exists(FILE) ? Files.readString(FILE) : "";
        } catch (IOException e) {
            throw new IllegalStateException(e);
        }
    }

    static boolean isMissing() {
        return TEXT.isEmpty();
    }

    /** A part ("Terms", "Promise 2") as it stands, without its title; empty if there is none such. */
    static String part(String name) {
        for (String section : TEXT.split("\n## ")) {
            int end = section.indexOf('\n');
            String title = end < 0 ? section : section.substring(0, end);
            if (title.equals(name) || title.startsWith(name + ":")) {
                return section.substring(title.length());
            }
        }
        return "";
    }

    static String onOneLine(String text) {
        return text.replaceAll("\\s+", " ");
    }

    /** Whether a part has the words; a missing document has all of them. */
    static boolean says(String part, String words) {
        return isMissing() || onOneLine(part(part)).contains(words);
    }
}
