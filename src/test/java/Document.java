import java.io.IOException;
import java.nio.file.Files;
import java.nio.file.Path;
import java.util.LinkedHashMap;
import java.util.Map;

/** The document's words by heading, so that a test can be held to the sentence that it names. */
final class Document {
    private static final Path PLACE = Path.of("../shared/DOC.md");

    private final Map<String, String> words = new LinkedHashMap<>();
    private final Map<String, boolean[]> named = new LinkedHashMap<>();

    static boolean isHere() {
        return Files.exists(PLACE);
    }

    Document() throws IOException {
        String[] parts = Files.readString(PLACE).split("(?m)^## ");
        for (String part : parts) {
            int end = part.indexOf('\n');
            String heading = part.substring(0, end).replaceAll(":.*", "").trim();
            if (heading.matches("What it is|Terms|Promise \\d+")) {
                String text = bare(heading, part.substring(end));
                words.put(heading, text);
                named.put(heading, new boolean[text.length()]);
            }
        }
    }

    /** Without the signs that frame the words: fences, signatures, the names of groups of calls, chapter numbers. */
    private static String bare(String heading, String text) {
        String all = text.replaceAll("(?m)^```.*$", "").replaceAll("(?m)^`[^`]*`: ", "")
                .replaceAll("(?m)^Ahead of the calls [^(\n]*$", "")
                .replaceAll("(?m)^Ahead of the calls .*the interface says: ---- ", "")
                .replaceAll("\\s+", " ");
        if (heading.equals("What it is")) {
            all = all.substring(all.indexOf("========"));
        }
        return all.replaceAll("======== \\d ", "").trim();
    }

    /** Whether the words stand under the heading; they are named then. */
    boolean name(String heading, String quote) {
        String text = words.getOrDefault(heading, "");
        boolean found = false;
        for (int at = text.indexOf(quote); at >= 0; at = text.indexOf(quote, at + 1)) {
            java.util.Arrays.fill(named.get(heading), at, at + quote.length(), true);
            found = true;
        }
        return found;
    }

    /** The words under each heading that no test has named. */
    String unnamed() {
        StringBuilder rest = new StringBuilder();
        for (Map.Entry<String, String> one : words.entrySet()) {
            StringBuilder left = new StringBuilder();
            for (int i = 0; i < one.getValue().length(); i++) {
                left.append(named.get(one.getKey())[i] ? '|' : one.getValue().charAt(i));
            }
            String bare = left.toString().replaceAll("\\|+", "|");
            if (bare.matches(".*[A-Za-z0-9].*")) {
                rest.append(one.getKey()).append(": ").append(bare).append('\n');
            }
        }
        return rest.toString();
    }

    int promises() {
        return (int) words.keySet().stream().filter(h -> h.startsWith("Promise")).count();
    }
}
