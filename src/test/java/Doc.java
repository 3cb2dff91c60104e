import java.io.IOException;
import java.io.UncheckedIOException;
import java.nio.file.Files;
import java.nio.file.Path;
import java.util.HashMap;
import java.util.Map;

/** The document, so that a test which quotes a sentence can be held to its words. */
final class Doc {
    private static final Map<String, String> PARTS = read();

    private Doc() {
    }

    static boolean says(String heading, String words) {
        return PARTS.getOrDefault(heading, "").contains(words);
    }

    private static Map<String, String> read() {
        Map<String, String> parts = new HashMap<>();
        try {
            for (String part : Files.readString(Path.of("../shared/DOC.md")).split("\n## ")) {
                int end = part.indexOf('\n');
                parts.put(part.substring(0, Math.max(end, 0)).trim(), part.replaceAll("\\s+", " "));
            }
        } catch (IOException e) {
            throw new UncheckedIOException(e);
        }
        return parts;
    }
}
