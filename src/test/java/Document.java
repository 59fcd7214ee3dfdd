import java.nio.charset.StandardCharsets;
import java.nio.file.Files;
import java.nio.file.Path;
import java.util.ArrayList;
import java.util.Arrays;
import java.util.List;
import java.util.Set;
import java.util.TreeSet;

/** The words of the document, so that a test can say which of them it holds the class to. */
final class Document {
    static final int PROMISES = 33;
    private static final Path PLACE = Path.of("../shared/DOC.md");

    private final String text;
    private final boolean[] quoted;
    private final Set<Integer> tested = new TreeSet<>();

    Document() throws Exception {
        text = Files.readString(PLACE, StandardCharsets.UTF_8).replaceAll("\\s+", " ");
        quoted = new boolean[text.length()];
    }

    void isTested(int promise) {
        tested.add(promise);
    }

    boolean tests(int promise) {
        return tested.contains(promise);
    }

    /** Whether the document has these words; they are marked as held. */
    boolean quote(String words) {
        int at = text.indexOf(words);
        if (at < 0) {
            return false;
        }
        Arrays.fill(quoted, at, at + words.length(), true);
        return true;
    }

    /** What no test quotes, from the Terms on, pieces of letters and numbers alone. */
    List<String> unquoted() {
        List<String> pieces = new ArrayList<>();
        int end = text.indexOf("## Not promised");
        int from = text.indexOf("## Terms");
        for (int i = from; i < end; i++) {
            if (!quoted[i]) {
                int start = i;
                while (i < end && !quoted[i]) {
                    i++;
                }
                String piece = text.substring(start, i);
                String words = piece.replaceAll("## Promise \\d+: (A new object|\\w+)", " ")
                        .replaceAll("`int \\w+\\([^`]*`:|## Terms|====|```text|```| I{1,3}\\.", " ").trim();
                if (words.matches("(?s).*\\w.*")) {
                    pieces.add(words);
                }
            }
        }
        return pieces;
    }
}
