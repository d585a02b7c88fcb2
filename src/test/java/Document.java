import java.io.IOException;
import java.nio.file.Files;
import java.nio.file.Path;
import java.util.ArrayList;
import java.util.LinkedHashMap;
import java.util.List;
import java.util.Map;

/**
 * DOC.md by its sections: "Terms", "2" and "3" (behind ==== 2. and ==== 3.) and "Promise 1" to
 * "Promise 46". What is quoted of a section is marked there, so that in the end it can be told
 * what nobody quoted. Line breaks count as blanks; headings, signatures and the marks of code
 * blocks are not text.
 */
final class Document {
    private static final class Section {
        private final String text;
        private final boolean[] quoted;

        Section(String text) {
            this.text = text;
            quoted = new boolean[text.length()];
        }
    }

    private final Map<String, Section> sections = new LinkedHashMap<>();

    Document(Path file) throws IOException {
        String all = Files.readString(file).replace("```text", "").replace("```", "");
        String terms = between(all, "## Terms", "## Promise 1:");
        int second = terms.indexOf("==== 2.");
        int third = terms.indexOf("==== 3.");
        add("Terms", terms.substring(0, second));
        add("2", terms.substring(second + 7, third));
        add("3", terms.substring(third + 7));
        for (int promise = 1; promise <= 46; promise++) {
            String head = "## Promise " + promise + ":";
            String body = between(all, head, "## ");
            // The heading's own line and the signature in its backquotes.
            add("Promise " + promise, body.substring(body.lastIndexOf("`:") + 2));
        }
    }

    private static String between(String all, String head, String end) {
        int from = all.indexOf(head) + head.length();
        return all.substring(from, all.indexOf(end, from));
    }

    private void add(String name, String text) {
        sections.put(name, new Section(text.strip().replaceAll("\\s+", " ")));
    }

    boolean has(String name) {
        return sections.containsKey(name);
    }

    /** Whether a section has the words; they are marked wherever it has them. */
    boolean quote(String name, String words) {
        Section section = sections.get(name);
        boolean found = false;
        for (int at = section.text.indexOf(words); at >= 0; at = section.text.indexOf(words, at + 1)) {
            found = true;
            for (int i = at; i < at + words.length(); i++) {
                section.quoted[i] = true;
            }
        }
        return found;
    }

    /** The pieces of all sections that hold a letter or a digit and were never quoted. */
    List<String> unquoted() {
        List<String> pieces = new ArrayList<>();
        sections.forEach((name, section) -> {
            StringBuilder piece = new StringBuilder();
            for (int i = 0; i <= section.text.length(); i++) {
                if (i < section.text.length() && !section.quoted[i]) {
                    piece.append(section.text.charAt(i));
                } else {
                    if (piece.chars().anyMatch(Character::isLetterOrDigit)) {
                        pieces.add(name + ": " + piece);
                    }
                    piece.setLength(0);
                }
            }
        });
        return pieces;
    }
}
