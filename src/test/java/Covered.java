import java.io.IOException;
import java.nio.file.Files;
import java.nio.file.Path;
import java.util.ArrayList;
import java.util.BitSet;
import java.util.HashMap;
import java.util.List;
import java.util.Map;
import java.util.regex.Matcher;
import java.util.regex.Pattern;
import java.util.stream.Stream;

// Every word of the document that tells a bound or a refusal stands in the words of some says(..).
public final class Covered extends Edges {
    private static final Path TESTS = Path.of("src/test/java");
    private static final Pattern SAYS = Pattern.compile("says\\(\"([^\"]+)\", \"([^\"]+)\"\\)");
    private static final Pattern BOUND = Pattern.compile(
        "\\d+|at most|at least|at first|cannot|can not|too soon|\\b(UNKNOWN|OUTSIDE|NOT|FULL|NONE|none|nothing|nobody|no|empty|alone|always)\\b");
    // Numbers of chapters, and words that sum up what the rest of the document tells.
    private static final Pattern NO_BOUND = Pattern.compile("======== \\d|if nothing is done|^ Which encore:");

    private static Map<String, BitSet> quoted() throws IOException {
        Map<String, BitSet> covered = new HashMap<>();
        try (Stream<Path> files = Files.list(TESTS)) {
            for (Path file : (Iterable<Path>) files::iterator) {
                Matcher m = SAYS.matcher(read(file));
                while (m.find()) {
                    String section = sections().getOrDefault(m.group(1), "");
                    BitSet places = covered.computeIfAbsent(m.group(1), s -> new BitSet());
                    for (int at = section.indexOf(m.group(2)); at >= 0; at = section.indexOf(m.group(2), at + 1)) {
                        places.set(at, at + m.group(2).length());
                    }
                }
            }
        }
        return covered;
    }

    private static List<String> boundSections() {
        List<String> names = new ArrayList<>(List.of("What it is", "Terms"));
        for (int promise = 1; promise <= 26; promise++) {
            names.add("" + promise);
        }
        return names;
    }

    public static void main(String[] args) throws IOException {
        Map<String, BitSet> covered = quoted();
        for (String name : boundSections()) {
            about(name);
            String section = sections().getOrDefault(name, "");
            tally(!section.isEmpty(), "the document has no such section");
            BitSet places = covered.getOrDefault(name, new BitSet());
            Matcher free = NO_BOUND.matcher(section);
            while (free.find()) {
                places.set(free.start(), free.end());
            }
            Matcher m = BOUND.matcher(section);
            while (m.find()) {
                int from = Math.max(0, m.start() - 40);
                int to = Math.min(section.length(), m.end() + 40);
                tally(places.get(m.start()), "no test of '" + m.group() + "' in '.." + section.substring(from, to) + "..'");
            }
        }
        finish();
    }
}
