import java.io.IOException;
import java.nio.file.Files;
import java.nio.file.Path;
import java.util.ArrayList;
import java.util.List;

/** The document, by sections, so that tests can be held against its very sentences. */
final class Document {
    static final Path FILE = Path.of("../shared/DOC.md");
    static final int PROMISES = 44;

    private final String[] sections = new String[PROMISES + 1];

    Document() {
        String text;
        try {
            text = Files.readString(FILE);
        } catch (IOException e) {
            throw new IllegalStateException(e);
        }
        sections[0] = between(text, "## Description", "## Promise 1:");
        for (int k = 1; k <= PROMISES; k++) {
            sections[k] = between(text, "## Promise " + k + ":",
                    k == PROMISES ? "## Not promised" : "## Promise " + (k + 1) + ":");
        }
    }

    private static String between(String text, String first, String last) {
        return text.substring(text.indexOf(first), text.indexOf(last));
    }

    boolean says(int promise, String words) {
        return sections[promise].contains(words);
    }

    /** The parts of the sentences of a promise, or of the description and the constants for 0; no headings. */
    List<String> sentences(int promise) {
        List<String> all = new ArrayList<>();
        for (String line : sections[promise].split("\n")) {
            boolean isText = !line.isBlank() && !line.startsWith("#") && !line.matches("`.*`|\\d\\. [A-Za-z ,]*");
            if (isText) {
                all.addAll(List.of(line.split("(?<=\\.) (?=[A-Z])|(?<=;) ")));
            }
        }
        return all;
    }
}
