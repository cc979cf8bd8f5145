import java.io.IOException;
import java.nio.file.Files;
import java.nio.file.Path;
import java.util.LinkedHashMap;
import java.util.Map;

/** The document's sentences: each one that a test claims must stand there, and none may be left unclaimed. */
final class Sentences {
    private static final Path DOCUMENT = Path.of("../shared/DOC.md");
    private static final String[] SECTIONS = {"What it is", "Terms", "Promise "};
    /** What a section says of no answer: an introduction, headings of the interface, a call's own face. */
    private static final String[] SILENT = {"Two strands, four ends, .*? images\\.", "Ahead of the calls .*? says: ----.*?\\.",
        "```text", "```", "^\\s*`[^`]*`: "};

    private final Map<String, String> texts = new LinkedHashMap<>();
    private final Map<String, boolean[]> claimed = new LinkedHashMap<>();

    Sentences() throws IOException {
        for (String part : Files.readString(DOCUMENT).split("(?m)^## ")) {
            String[] lines = part.split("\n", 2);
            for (String section : SECTIONS) {
                if (lines.length == 2 && lines[0].startsWith(section)) {
                    add(lines[0].replaceAll(":.*", ""), lines[1]);
                }
            }
        }
    }

    private void add(String section, String text) {
        String bare = text.replaceAll("\\s+", " ");
        for (String silent : SILENT) {
            bare = bare.replaceAll(silent, " ");
        }
        bare = bare.replaceAll("\\s+", " ").trim();
        texts.put(section, bare);
        claimed.put(section, new boolean[bare.length()]);
    }

    /** False if these words don't stand in the section; words that stand there twice are claimed one by one. */
    boolean claim(String section, String words) {
        String text = texts.getOrDefault(section, "");
        boolean[] marks = claimed.getOrDefault(section, new boolean[0]);
        int found = text.indexOf(words);
        for (int at = found; at >= 0; at = text.indexOf(words, at + 1)) {
            if (!marks[at]) {
                found = at;
                break;
            }
        }
        for (int i = 0; found >= 0 && i < words.length(); i++) {
            marks[found + i] = true;
        }
        return found >= 0;
    }

    void checkAllClaimed(Checks checks) {
        for (String section : texts.keySet()) {
            StringBuilder left = new StringBuilder();
            String text = texts.get(section);
            for (int i = 0; i < text.length(); i++) {
                boolean matters = Character.isLetterOrDigit(text.charAt(i)) && !claimed.get(section)[i];
                left.append(matters ? text.charAt(i) : ' ');
            }
            String rest = left.toString().replaceAll("\\s+", " ").trim();
            checks.isTrue(section + ": all is claimed by a test but: " + rest, rest.isEmpty());
        }
        checks.due("sections of the document", texts.size(), 38);
    }
}
