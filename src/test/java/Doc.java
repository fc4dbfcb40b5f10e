import java.io.IOException;
import java.nio.file.Files;
import java.nio.file.Path;
import java.util.ArrayList;
import java.util.BitSet;
import java.util.LinkedHashMap;
import java.util.List;
import java.util.Map;

/** The document, cut into its sections, and which of its words a test has quoted. */
final class Doc {
    private final Map<String, String> sections = new LinkedHashMap<>();
    private final Map<String, BitSet> quoted = new LinkedHashMap<>();

    Doc(Path file) throws IOException {
        for (String part : Files.readString(file).split("(?m)^## ")) {
            int end = part.indexOf('\n');
            if (end > 0) {
                String title = part.substring(0, end).replaceAll(":.*", "").strip();
                sections.put(title, plain(wordsOf(part.substring(end))));
                quoted.put(title, new BitSet());
            }
        }
    }

    /** Without the marks of the page, the headings of parts, and the method that a promise is of. */
    private static String wordsOf(String section) {
        return section.replaceAll("```[a-z]*", "").replaceAll("==== [IV]+\\.", "").replaceFirst("`[^`]*`:", "");
    }

    private static String plain(String words) {
        return words.replaceAll("\\s+", " ").strip();
    }

    /** Whether these words stand in that section; from now on they are quoted. */
    boolean quote(String title, String words) {
        String section = sections.getOrDefault(title, "");
        String piece = plain(words);
        int at = section.indexOf(piece);
        boolean found = at >= 0;
        for (; at >= 0; at = section.indexOf(piece, at + 1)) {
            quoted.get(title).set(at, at + piece.length());
        }
        return found;
    }

    /** What no test has quoted of the first lines, of the terms and of the promises. */
    List<String> unquoted() {
        List<String> rest = new ArrayList<>();
        sections.forEach((title, section) -> {
            if (title.equals("What it is") || title.equals("Terms") || title.startsWith("Promise")) {
                StringBuilder left = new StringBuilder();
                for (int i = 0; i < section.length(); i++) {
                    left.append(quoted.get(title).get(i) ? '\n' : section.charAt(i));
                }
                for (String piece : left.toString().split("\n+")) {
                    if (piece.matches(".*\\w.*")) {
                        rest.add(title + ": " + piece.strip());
                    }
                }
            }
        });
        return rest;
    }
}
