import java.io.IOException;
import java.nio.file.Files;
import java.nio.file.Path;
import java.util.HashMap;
import java.util.Map;
import java.util.regex.Matcher;
import java.util.regex.Pattern;

/** The document's sections, so that tests can quote no words that it hasn't. */
final class Document {
    private static final Path PLACE = Path.of("..", "shared", "DOC.md");
    private static final Pattern HEADS = Pattern.compile("^(?:## (What it is)$|## (Promise \\d+):|(\\d)\\. [A-Z]"
            + "|(A call that throws changes nothing)|## Not promised)", Pattern.MULTILINE);

    private final Map<String, String> sections = new HashMap<>();

    Document() {
        if (!Files.exists(PLACE)) {
            return;
        }
        try {
            split(Files.readString(PLACE));
        } catch (IOException thrown) {
            throw new IllegalStateException("the document can't be read", thrown);
        }
    }

    private void split(String text) {
        Matcher heads = HEADS.matcher(text);
        String name = "";
        int from = 0;
        while (heads.find()) {
            sections.put(name, plain(text.substring(from, heads.start())));
            from = heads.start();
            name = heads.group(1) != null ? heads.group(1) : heads.group(2) != null ? heads.group(2)
                    : heads.group(3) != null ? "Terms " + heads.group(3) : heads.group(4) != null ? "Behind Terms 6" : "";
        }
    }

    private static String plain(String text) {
        return text.replaceAll("\\s+", " ");
    }

    /** True for all words if the document isn't beside the project. */
    boolean has(String section, String words) {
        return sections.isEmpty() || sections.getOrDefault(section, "").contains(words);
    }
}
