import java.io.IOException;
import java.io.UncheckedIOException;
import java.nio.file.Files;
import java.nio.file.Path;
import java.util.ArrayList;
import java.util.List;
import java.util.regex.Pattern;

/**
 * The document's sentences: part 0 are its terms, parts 1 to 30 its promises. A test says which words it is of; what
 * no test has said is left over, so that no sentence can go without a test.
 */
final class Document {
    static final int PROMISES = 30;
    private static final Path PLACE = Path.of("../shared/DOC.md");

    private final List<String> parts = new ArrayList<>();
    private final List<boolean[]> said = new ArrayList<>();

    /** Without the document at hand the tests stand all the same; only what they quote is not looked at then. */
    Document() {
        if (!Files.exists(PLACE)) {
            System.out.println("no document at " + PLACE + ": what the tests quote is not looked at");
            return;
        }
        String whole;
        try {
            whole = Files.readString(PLACE);
        } catch (IOException e) {
            throw new UncheckedIOException(e);
        }
        // The terms begin within the document's first chapter, and are cut there in the midst of a sentence.
        String use = "An object is used";
        add(between(whole, "======== 1 ", use) + " " + between(whole, "## Terms", "## Promise 1:")
            + use + between(whole, use, "## The public face"));
        for (int promise = 1; promise <= PROMISES; promise++) {
            String next = promise < PROMISES ? "## Promise " + (promise + 1) + ":" : "## Not promised";
            String body = between(whole, "## Promise " + promise + ":", next);
            add(body.replaceFirst("(?s)^.*?`[^`]*`: ", ""));
        }
    }

    private void add(String part) {
        String words = part.replaceAll("```(text)?", " ")
            .replaceAll("(?m)^Ahead of the calls.*$", " ")
            .replaceAll("======== \\d", " ")
            .replaceAll("\\s+", " ").trim();
        parts.add(words);
        said.add(new boolean[words.length()]);
    }

    private static String between(String whole, String from, String to) {
        int start = whole.indexOf(from);
        int end = start < 0 ? -1 : whole.indexOf(to, start);
        if (end < 0) {
            throw new IllegalStateException("the document has no '" + from + "' with '" + to + "' behind it");
        }
        return whole.substring(start + from.length(), end);
    }

    /** Whether the words stand in the part; they count as tested then. */
    boolean says(int part, String words) {
        if (parts.isEmpty()) {
            return true;
        }
        int at = parts.get(part).indexOf(words);
        for (int i = at; at >= 0 && i < at + words.length(); i++) {
            said.get(part)[i] = true;
        }
        return at >= 0;
    }

    /** The words that no test is of. */
    List<String> unsaid() {
        List<String> left = new ArrayList<>();
        for (int part = 0; part < parts.size(); part++) {
            StringBuilder words = new StringBuilder();
            for (int i = 0; i < parts.get(part).length(); i++) {
                words.append(said.get(part)[i] ? '\n' : parts.get(part).charAt(i));
            }
            for (String one : words.toString().split("\n+")) {
                if (Pattern.compile("[A-Za-z0-9]").matcher(one).find()) {
                    left.add((part == 0 ? "terms" : "promise " + part) + ": " + one.trim());
                }
            }
        }
        return left;
    }
}
