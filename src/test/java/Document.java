import java.io.IOException;
import java.nio.file.Files;
import java.nio.file.Path;
import java.util.ArrayList;
import java.util.List;
import java.util.regex.Matcher;
import java.util.regex.Pattern;

/** DOC.md by its sections, and which of its words the tests of boundary sentences have quoted. */
final class Document {
    static final int TERMS = 0;
    static final int PROMISES = 38;
    /** Words by which a sentence names a boundary case. */
    private static final Pattern BOUNDARY = Pattern.compile("\\b[Rr]efused\\b|\\bNONE\\b|\\bfalse\\b|-[123]\\b"
        + "|\\bNoSuchElementException\\b|\\bnone\\b|\\b[Nn]obody\\b|\\bempt(y|ies)\\b|\\bat most\\b|\\bat first\\b"
        + "|\\d \\.\\. \\d|\\bmore than\\b|\\babove\\b|\\bbelow\\b|\\b301st\\b|\\bas ints\\b|\\bwithout sign\\b"
        + "|\\bwith their sign\\b|\\bthe first 12\\b|\\b[46]0\\b|\\bninth\\b|\\broom\\b|\\btoo early\\b|\\bnever\\b");

    private final String[] section = new String[PROMISES + 1];
    private final boolean[][] quoted = new boolean[PROMISES + 1][];

    Document(Path file) throws IOException {
        String all = Files.readString(file);
        section[TERMS] = between(all, "## Terms", "Ahead of the calls");
        for (int p = 1; p <= PROMISES; p++) {
            String title = "## Promise " + p + ":";
            section[p] = between(all, title, "\n## ");
            // behind the title and the call's face, which are no sentences
            section[p] = section[p].replaceFirst("^[^\n]*\\s*`[^`]*`: ", "");
        }
        for (int p = 0; p <= PROMISES; p++) {
            section[p] = plain(section[p].replace("```text", "").replace("```", ""));
            quoted[p] = new boolean[section[p].length()];
        }
    }

    private static String between(String all, String from, String to) {
        int start = all.indexOf(from) + from.length();
        int end = all.indexOf(to, start);
        return all.substring(start, end);
    }

    private static String plain(String text) {
        return text.replaceAll("\\s+", " ").trim();
    }

    /** Whether the section says so; if it does, these words count as tested. */
    boolean quotes(int promise, String words) {
        int at = section[promise].indexOf(plain(words));
        if (at < 0) {
            return false;
        }
        for (int i = 0; i < plain(words).length(); i++) {
            quoted[promise][at + i] = true;
        }
        return true;
    }

    /** Every place that names a boundary case, but stands in no quote. */
    List<String> unquoted() {
        List<String> found = new ArrayList<>();
        for (int p = 0; p <= PROMISES; p++) {
            Matcher m = BOUNDARY.matcher(section[p]);
            while (m.find()) {
                if (!quoted[p][m.start()]) {
                    int to = Math.min(section[p].length(), m.end() + 30);
                    found.add("promise " + p + ": " + section[p].substring(Math.max(0, m.start() - 30), to));
                }
            }
        }
        return found;
    }
}
