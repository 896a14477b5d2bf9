import java.io.IOException;
import java.nio.charset.StandardCharsets;
import java.nio.file.Files;
import java.nio.file.Path;
import java.util.ArrayList;
import java.util.List;

/** The document's words, so that each test can name those that it tests, and none is left without a test. */
final class Doc {
    static final int TERMS = 0, PROMISES = 23;

    private final String[] words = new String[PROMISES + 1];
    private final boolean[][] tested = new boolean[PROMISES + 1][];

    Doc() {
        String all = read();
        words[TERMS] = plain(between(all, "\n## Terms\n", "\n## Promise 1:"));
        for (int k = 1; k <= PROMISES; k++) {
            String section = between(all, "\n## Promise " + k + ":", "\n## ");
            words[k] = plain(section.substring(section.indexOf("`: ") + 3));
        }
        for (int k = 0; k <= PROMISES; k++) tested[k] = new boolean[words[k].length()];
    }

    private static String read() {
        try {
            return Files.readString(Path.of("../shared/DOC.md"), StandardCharsets.UTF_8);
        } catch (IOException e) {
            throw new IllegalStateException("the document is not where it should be", e);
        }
    }

    private static String between(String all, String head, String tail) {
        int from = all.indexOf(head);
        if (from < 0) throw new IllegalStateException("the document has no" + head);
        from += head.length();
        int to = all.indexOf(tail, from);
        if (to < 0) throw new IllegalStateException("the document has no" + tail);
        return all.substring(from, to);
    }

    /** Without fences, numbers of sections and the lines that only group the calls; a blank between words. */
    private static String plain(String section) {
        return section.replaceAll("(?m)^```.*$", " ").replaceAll("(?m)^Ahead of the calls.*$", " ")
            .replaceAll("={8} \\d", " ").replaceAll("\\s+", " ").trim();
    }

    /** False if these words do not stand there, or a test has named all of them. */
    boolean name(int section, String some) {
        String all = words[section];
        for (int at = all.indexOf(some); at >= 0; at = all.indexOf(some, at + 1)) {
            if (tested[section][at]) continue;
            for (int i = at; i < at + some.length(); i++) tested[section][i] = true;
            return true;
        }
        return false;
    }

    List<String> untested() {
        List<String> found = new ArrayList<>();
        for (int k = 0; k <= PROMISES; k++) {
            StringBuilder run = new StringBuilder();
            for (int i = 0; i <= words[k].length(); i++) {
                boolean open = i < words[k].length() && !tested[k][i];
                if (open) run.append(words[k].charAt(i));
                else {
                    if (run.chars().anyMatch(Character::isLetterOrDigit)) found.add((k == 0 ? "Terms" : "promise " + k) + ": " + run);
                    run.setLength(0);
                }
            }
        }
        return found;
    }
}
