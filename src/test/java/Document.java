import java.io.IOException;
import java.io.UncheckedIOException;
import java.nio.file.Files;
import java.nio.file.Path;
import java.util.Arrays;
import java.util.LinkedHashMap;
import java.util.Map;

/** The document's sections, and which of their words are quoted by tests. */
final class Document {
    private static final Path FILE = Path.of("../shared/DOC.md");
    private static final Document READ = new Document();

    private final Map<String, String> words = new LinkedHashMap<>();
    private final Map<String, boolean[]> quoted = new LinkedHashMap<>();

    private Document() {
        String section = "";
        StringBuilder text = new StringBuilder();
        for (String line : lines()) {
            if (line.startsWith("#")) {
                close(section, text);
                section = nameOf(line);
            } else if (isProse(line)) {
                text.append(line.replace("`", "")).append(' ');
            }
        }
        close(section, text);
    }

    private static Iterable<String> lines() {
        try {
            return Files.readAllLines(FILE);
        } catch (IOException e) {
            throw new UncheckedIOException(e);
        }
    }

    private static String nameOf(String heading) {
        String name = heading.replace("#", "").trim();
        return name.startsWith("Promise ") ? name.substring(0, name.indexOf(':')) : name;
    }

    // The signatures and the names of the groups of methods are no sentences.
    private static boolean isProse(String line) {
        return !line.startsWith("`") && !line.startsWith("----");
    }

    private void close(String section, StringBuilder text) {
        words.put(section, text.toString());
        quoted.put(section, new boolean[text.length()]);
        text.setLength(0);
    }

    static void quote(String section, String part) {
        String all = READ.words.getOrDefault(section, "");
        int at = all.indexOf(part);
        Check.holds(section + " of the document says \"" + part + "\"", at >= 0);
        while (at >= 0) {
            Arrays.fill(READ.quoted.get(section), at, at + part.length(), true);
            at = all.indexOf(part, at + 1);
        }
    }

    /** Every word, from the first line to the last promise, has to be quoted by some test. */
    static void checkThatAllIsQuoted() {
        for (String section : READ.words.keySet()) {
            if (!section.equals("Not promised")) {
                String left = READ.unquoted(section);
                Check.holds(section + ": every word is tested, but for \"" + left + "\"", left.isEmpty());
            }
        }
        Check.holds("the document has 25 promises", READ.words.containsKey("Promise 25")
                && !READ.words.containsKey("Promise 26"));
    }

    private String unquoted(String section) {
        String all = words.get(section);
        StringBuilder left = new StringBuilder();
        for (int i = 0; i < all.length(); i++) {
            left.append(quoted.get(section)[i] ? ' ' : all.charAt(i));
        }
        boolean hasWords = left.chars().anyMatch(Character::isLetterOrDigit);
        return hasWords ? left.toString().replaceAll("\\s+", " ").trim() : "";
    }
}
