import java.io.IOException;
import java.nio.file.Files;
import java.nio.file.Path;
import java.util.LinkedHashMap;
import java.util.Map;

/** The document's text by its headings, with a mark on each word that a test stands for. */
final class Document {
    private static final Path FILE = Path.of("../shared/DOC.md");

    private final Map<String, String> texts = new LinkedHashMap<>();
    private final Map<String, boolean[]> marks = new LinkedHashMap<>();

    Document() throws IOException {
        for (String part : Files.readString(FILE).split("(?m)^## ")) {
            int end = part.indexOf('\n');
            String text = plain(part.substring(end + 1));
            texts.put(part.substring(0, end).replaceAll(":.*", "").trim(), text);
        }
        texts.forEach((heading, text) -> marks.put(heading, new boolean[text.length()]));
    }

    /** Without what says nothing of its own: fences, the sections' lines, what the interface says, a promise's signature. */
    private static String plain(String part) {
        return part.replaceAll("(?m)^```.*$", "")
                .replaceAll("(?m)^Ahead of the calls .*$", "")
                .replaceAll("(?m)^`[^`]*`: ", "")
                .replaceAll("={4,} \\d+ ", "")
                .replaceAll("\\s+", " ").trim();
    }

    /** Whether these words stand under that heading. */
    boolean mark(String heading, String words) {
        String text = texts.getOrDefault(heading, "");
        int from = text.indexOf(words);
        for (int i = from; i >= 0 && i < from + words.length(); i++) {
            marks.get(heading)[i] = true;
        }
        return from >= 0;
    }

    /** What no mark stands on under that heading; without words if all is marked. */
    String left(String heading) {
        String text = texts.getOrDefault(heading, heading);
        StringBuilder rest = new StringBuilder();
        for (int i = 0; i < text.length(); i++) {
            rest.append(marks.containsKey(heading) && marks.get(heading)[i] ? ' ' : text.charAt(i));
        }
        String words = rest.toString().replaceAll("\\s+", " ").trim();
        return words.matches(".*[A-Za-z0-9].*") ? words : "";
    }
}
