import java.io.IOException;
import java.nio.charset.StandardCharsets;
import java.nio.file.Files;
import java.nio.file.Path;
import java.util.BitSet;
import java.util.LinkedHashMap;
import java.util.Map;

/**
 * The document's sentences. A boundary test names the words that it is about; they must stand in the document,
 * and at the end no words of the description and the promises may be left without a test.
 */
final class Doc {
    private static final Path FILE = Path.of("..", "shared", "DOC.md");
    private static final String[] WITHOUT_BOUNDARIES = {"Cranes, zones", "History, errors",
        "The constructor and the methods follow, a promise each: the signature, then what it does."};
    private static final Map<String, String> SECTIONS = new LinkedHashMap<>();
    /** For each section, which of its signs stand in words that a test has named. */
    private static final Map<String, BitSet> NAMED = new LinkedHashMap<>();

    private Doc() {
    }

    static void read() {
        String section = "";
        try {
            for (String line : Files.readAllLines(FILE, StandardCharsets.UTF_8)) {
                if (line.startsWith("#")) {
                    section = line.replaceAll("^#+ |:.*$", "");
                } else if (!line.startsWith("`") && !line.startsWith("----")) {
                    // A sentence goes on over the ends of lines.
                    SECTIONS.merge(section, line.strip() + " ", String::concat);
                }
            }
        } catch (IOException e) {
            Check.holds("the document can be read: " + e, false);
        }
        SECTIONS.replaceAll((name, text) -> text.replaceAll("\\s+", " "));
    }

    /** The test that follows is about these words of this section. */
    static void says(String section, String words) {
        Check.about(section + ": " + words);
        String text = SECTIONS.getOrDefault(section, "");
        Check.holds("these words stand in the document", text.contains(words));
        BitSet named = NAMED.computeIfAbsent(section, name -> new BitSet());
        for (int at = text.indexOf(words); at >= 0; at = text.indexOf(words, at + 1)) {
            named.set(at, at + words.length());
        }
    }

    static void says(int promise, String words) {
        says("Promise " + promise, words);
    }

    static void dueWhole() {
        for (String words : WITHOUT_BOUNDARIES) {
            says(words.startsWith("Cranes") ? "Description" : "Text", words);
        }
        Check.about("");
        for (Map.Entry<String, String> section : SECTIONS.entrySet()) {
            String name = section.getKey();
            if (name.matches("Description|Turning|Overrides|Text|Promise [0-9]+")) {
                String left = wordsLeft(section.getValue(), NAMED.getOrDefault(name, new BitSet()));
                Check.holds("each sentence of '" + name + "' has a boundary test; left: " + left, left.isEmpty());
            }
        }
        Check.holds("all promises were read", SECTIONS.containsKey("Promise 33"));
    }

    private static String wordsLeft(String text, BitSet named) {
        StringBuilder left = new StringBuilder();
        for (int at = 0; at < text.length(); at++) {
            left.append(named.get(at) ? '|' : text.charAt(at));
        }
        // Signs between the words that were named say nothing alone.
        String words = left.toString().replaceAll("\\|+", "|");
        return words.matches("[^A-Za-z0-9]*") ? "" : words;
    }
}
