import java.io.IOException;
import java.nio.file.Files;
import java.nio.file.Path;
import java.util.ArrayList;
import java.util.LinkedHashMap;
import java.util.List;
import java.util.Map;

/** The sentences of ../shared/DOC.md, by the heading that they stand under. */
final class Document {
    private static final Path DOCUMENT = Path.of("../shared/DOC.md");

    private Document() {
    }

    static Map<String, List<String>> sentences() throws IOException {
        Map<String, List<String>> parts = new LinkedHashMap<>();
        List<String> part = new ArrayList<>();
        for (String line : Files.readAllLines(DOCUMENT)) {
            if (line.startsWith("#")) {
                part = new ArrayList<>();
                parts.put(line.replaceFirst("^#+ ", ""), part);
            } else {
                part.addAll(split(line));
            }
        }
        return parts;
    }

    private static List<String> split(String line) {
        String text = line.strip().replaceFirst("^(-|\\d+\\.) ", "");
        return text.isEmpty() ? List.of() : List.of(text.split("(?<=\\.) (?=[A-Z`])"));
    }
}
