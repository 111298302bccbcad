import java.io.IOException;
import java.nio.file.Files;
import java.nio.file.Path;

/** The document's text, so that a test can only quote what stands there. */
final class Document {
    private static final Path FILE = Path.of("../shared/DOC.md");
    private static final String TEXT = read();

    private Document() {
    }

    private static String read() {
        try {
            return Files.exists(FILE) ? Files.readString(FILE) : "";
        } catch (IOException e) {
            throw new IllegalStateException(e);
        }
    }

    /** Whether a part ("Terms", "Promise 2") has the words; a missing document has all of them. */
    static boolean says(String part, String words) {
        if (TEXT.isEmpty()) {
            return true;
        }
        for (String section : TEXT.split("\n## ")) {
            boolean isPart = section.startsWith(part + "\n") || section.startsWith(part + ":");
            if (isPart && section.replaceAll("\\s+", " ").contains(words)) {
                return true;
            }
        }
        return false;
    }
}
