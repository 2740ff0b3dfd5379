import java.io.IOException;
import java.nio.file.Files;
import java.nio.file.Path;
import java.util.ArrayList;
import java.util.List;
import java.util.regex.Matcher;
import java.util.regex.Pattern;

/** DOC.md by its sections, and which of its words the tests have quoted. */
final class Document {
    static final int TERMS = 0;
    static final int PROMISES = 38;
    private static final Pattern WORDS = Pattern.compile("[\\w*~=();]+");

    private final String[] section = new String[PROMISES + 1];
    private final boolean[][] quoted = new boolean[PROMISES + 1][];

    Document(Path file) throws IOException {
        String all = Files.readString(file);
        section[TERMS] = terms(all);
        for (int p = 1; p <= PROMISES; p++) {
            String title = "## Promise " + p + ":";
            section[p] = between(all, title, "\n## ");
            // behind the title and the call's face, which are no sentences
            section[p] = section[p].replaceFirst("^[^\n]*\\s*`[^`]*`: ", "");
        }
        for (int p = 0; p <= PROMISES; p++) {
            section[p] = plain(section[p].replace("```text", "").replace("```", ""));
            quoted[p] = new boolean[section[p].length()];
        }
    }

    /** With the sentence on an object's calls, and the one on the listener that is told as a heading. */
    private static String terms(String all) {
        String numbered = between(all, "## Terms", "Ahead of the calls").replaceAll("(?m)^\\d\\. ", "");
        return between(all, "who is nameless.", "## The public face") + numbered
            + between(all, "the interface says: ---- what a listener knows", "Ahead of the calls");
    }

    private static String between(String all, String from, String to) {
        int start = all.indexOf(from) + from.length();
        int end = all.indexOf(to, start);
        return all.substring(start, end);
    }

    private static String plain(String text) {
        return text.replaceAll("\\s+", " ").trim();
    }

    /** Whether the section says so; if it does, these words count as tested. */
    boolean quotes(int promise, String words) {
        int at = section[promise].indexOf(plain(words));
        if (at < 0) {
            return false;
        }
        for (int i = 0; i < plain(words).length(); i++) {
            quoted[promise][at + i] = true;
        }
        return true;
    }

    /** Every run of words that stands in no quote. */
    List<String> unquoted() {
        List<String> found = new ArrayList<>();
        for (int p = 0; p <= PROMISES; p++) {
            int last = -1;
            Matcher m = WORDS.matcher(section[p]);
            while (m.find()) {
                boolean goesOn = last >= 0 && m.start() == last + 1;
                last = quoted[p][m.start()] ? -1 : m.end();
                if (last >= 0 && !goesOn) {
                    found.add("promise " + p + ": " + section[p].substring(m.start()));
                }
            }
        }
        return found;
    }
}
