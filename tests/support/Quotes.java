import java.io.IOException;
import java.nio.charset.StandardCharsets;
import java.nio.file.Files;
import java.nio.file.Path;
import java.util.ArrayList;
import java.util.LinkedHashMap;
import java.util.List;
import java.util.Map;

/** The document by its headings, and which of its words a test has quoted. */
public final class Quotes {
    private final Map<String, String> texts = new LinkedHashMap<>();
    private final Map<String, boolean[]> quoted = new LinkedHashMap<>();

    public Quotes(Path document) throws IOException {
        String whole = Files.readString(document, StandardCharsets.UTF_8);
        for (String part : whole.split("(?m)^## ")) {
            int line = part.indexOf('\n');
            if (line > 0) {
                String text = plain(part.substring(line));
                texts.put(part.substring(0, line).trim(), text);
                quoted.put(part.substring(0, line).trim(), new boolean[text.length()]);
            }
        }
    }

    /* What marks code, the face's own line in a promise too, is no sentence. */
    private static String plain(String text) {
        return text.replaceAll("(?m)^```\\w*$", " ").replaceFirst("^\\s*`[^`]*`:", " ")
                .replace("`", "").replaceAll("\\s+", " ").trim();
    }

    /** Marks a sentence; false if the document does not have it under that heading. */
    public boolean mark(String heading, String sentence) {
        String text = texts.getOrDefault(heading, "");
        boolean found = false;
        for (int at = text.indexOf(sentence); at >= 0; at = text.indexOf(sentence, at + 1)) {
            found = true;
            for (int i = at; i < at + sentence.length(); i++) {
                quoted.get(heading)[i] = true;
            }
        }
        return found;
    }

    /** What no test has quoted of the parts whose headings begin so. */
    public List<String> unquoted(String beginning) {
        List<String> left = new ArrayList<>();
        for (Map.Entry<String, String> part : texts.entrySet()) {
            if (part.getKey().startsWith(beginning)) {
                for (String piece : unmarked(part.getValue(), quoted.get(part.getKey()))) {
                    left.add(part.getKey() + ": '" + piece + "'");
                }
            }
        }
        return left;
    }

    /* Blanks and stops between two quotes are no words. */
    private static List<String> unmarked(String text, boolean[] marks) {
        List<String> pieces = new ArrayList<>();
        int from = 0;
        for (int i = 0; i <= text.length(); i++) {
            if (i == text.length() || marks[i]) {
                String piece = text.substring(from, i).trim();
                if (piece.matches(".*[A-Za-z0-9].*")) {
                    pieces.add(piece);
                }
                from = i + 1;
            }
        }
        return pieces;
    }
}
