import java.io.IOException;
import java.nio.file.Files;
import java.nio.file.Path;
import java.util.LinkedHashMap;
import java.util.List;
import java.util.Map;

/** The document cut by its headings, beside the sentences that the tests name: none may be left out or made up. */
final class Document {
    private static final int PROMISES = 30;
    /** What names nothing that a call could answer. */
    private static final String[] UNTESTED = {"Words in capitals are told where they come first.",
        "THE HOUSE is told in a text", "clauses:"};

    private final Map<String, String> parts = new LinkedHashMap<>();

    Document(Path path) throws IOException {
        String text = Files.readString(path).replaceAll("(?m)^```.*$", " ").replaceAll("\\s+", " ");
        parts.put("What it is", between(text, "images to go on from. ", "## The public face"));
        parts.put("Terms", between(text, "## Terms ", "======== 1"));
        parts.put("Section 1", between(text, "======== 1 ", "======== 2"));
        parts.put("Section 2", between(text, "======== 2 ", "======== 3"));
        parts.put("Section 3", between(text, "======== 3 ", "Ahead of the calls"));
        for (int n = 1; n <= PROMISES; n++) {
            parts.put("Promise " + n, between(text, "## Promise " + n + ": ", "## ").replaceAll("^.*?`.*?`: ", ""));
        }
    }

    private static String between(String text, String start, String end) {
        int from = text.indexOf(start) + start.length();
        int to = text.indexOf(end, from);
        boolean found = from >= start.length() && to >= 0;
        Check.due("the document has '" + start + "' ahead of '" + end + "'", found);
        return found ? text.substring(from, to) : "";
    }

    void compare(List<String[]> sentences) {
        for (String[] sentence : sentences) {
            String part = parts.getOrDefault(sentence[0], "");
            Check.due("the document says this under " + sentence[0] + ": " + sentence[1], part.contains(sentence[1]));
        }
        for (Map.Entry<String, String> part : parts.entrySet()) {
            String left = leftOver(part.getKey(), part.getValue(), sentences);
            Check.due(part.getKey() + ": a test of '" + left + "'", !left.matches(".*[A-Za-z0-9].*"));
        }
    }

    /** What of a part is in no sentence that was tested. */
    private static String leftOver(String heading, String part, List<String[]> sentences) {
        StringBuilder left = new StringBuilder(part);
        for (String words : UNTESTED) {
            strike(left, part, words);
        }
        for (String[] sentence : sentences) {
            if (sentence[0].equals(heading)) {
                strike(left, part, sentence[1]);
            }
        }
        return left.toString().trim().replaceAll(" +", " ");
    }

    private static void strike(StringBuilder left, String part, String words) {
        for (int at = part.indexOf(words); at >= 0; at = part.indexOf(words, at + 1)) {
            left.replace(at, at + words.length(), " ".repeat(words.length()));
        }
    }
}
