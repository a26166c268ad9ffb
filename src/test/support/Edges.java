import java.io.IOException;
import java.io.UncheckedIOException;
import java.nio.file.Files;
import java.nio.file.Path;
import java.util.LinkedHashMap;
import java.util.Map;

/** Tests of boundary cases, each behind the document's own words for it. */
abstract class Edges extends Checks {
    private static final Path DOCUMENT = Path.of("../shared/DOC.md");
    private static final Map<String, String> SECTIONS = new LinkedHashMap<>();

    /** The document's sections: "What it is", "Terms", and the promises by their numbers. */
    static Map<String, String> sections() {
        if (SECTIONS.isEmpty()) {
            for (String part : read(DOCUMENT).split("(?m)^## ")) {
                int end = part.indexOf('\n');
                String title = part.substring(0, end).replaceAll("^Promise (\\d+):.*", "$1");
                SECTIONS.put(title, part.substring(end).replaceAll("\\s+", " "));
            }
        }
        return SECTIONS;
    }

    static String read(Path file) {
        try {
            return Files.readString(file);
        } catch (IOException e) {
            throw new UncheckedIOException(e);
        }
    }

    /** What follows tests these words of that section. */
    static void says(String section, String words) {
        about(section + ", '" + words + "'");
        tally(sections().getOrDefault(section, "").contains(words), "the document does not say so");
    }
}
