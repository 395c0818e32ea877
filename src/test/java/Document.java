import java.io.IOException;
import java.nio.file.Files;
import java.nio.file.Path;
import java.util.ArrayList;
import java.util.Arrays;
import java.util.List;
import java.util.regex.Matcher;
import java.util.regex.Pattern;

/**
 * The sentences of DOC.md: section 0 is 'Terms', with how many calls there are ahead of it, sections
 * 1 to 27 are the promises. Remembers which words were quoted, so that a sentence without a test of its
 * own is seen.
 */
final class Document {
    static final int PROMISES = 27;
    private static final Pattern WORD = Pattern.compile("[A-Za-z0-9]+");

    private final String[] texts = new String[PROMISES + 1];
    private final boolean[][] quoted = new boolean[PROMISES + 1][];

    Document(Path file) throws IOException {
        String all = Files.readString(file);
        String calls = between(all, "undone; images to go on from.", "\n## The public face");
        texts[0] = folded((calls + between(all, "## Terms\n", "\n## Promise 1:"))
            .replaceAll("(?m)^```.*$", "")
            .replaceAll("(?m)^Ahead of the calls .*$", "")
            .replaceAll("======== \\d", ""));
        for (int promise = 1; promise <= PROMISES; promise++) {
            String next = promise < PROMISES ? "\n## Promise " + (promise + 1) + ":" : "\n## Not promised";
            String section = between(all, "## Promise " + promise + ":", next);
            // Behind the heading and the call itself stands what it does.
            texts[promise] = folded(section.substring(section.indexOf('\n')).replaceFirst("`[^`]*`:", ""));
        }
        for (int section = 0; section <= PROMISES; section++) {
            quoted[section] = new boolean[texts[section].length()];
        }
    }

    private static String between(String all, String start, String end) {
        int from = all.indexOf(start);
        int to = from < 0 ? -1 : all.indexOf(end, from);
        if (to < 0) {
            throw new IllegalStateException("the document has no " + start.trim());
        }
        return all.substring(from + start.length(), to);
    }

    private static String folded(String text) {
        return text.replaceAll("\\s+", " ").trim();
    }

    /** False: the section does not say so, word for word. */
    boolean says(int section, String quote) {
        int from = texts[section].indexOf(quote);
        if (from < 0) {
            return false;
        }
        Arrays.fill(quoted[section], from, from + quote.length(), true);
        return true;
    }

    /** What no test has quoted, word by word. */
    List<String> unquoted() {
        List<String> left = new ArrayList<>();
        for (int section = 0; section <= PROMISES; section++) {
            Matcher words = WORD.matcher(texts[section]);
            while (words.find()) {
                if (!quoted[section][words.start()]) {
                    left.add(section + ": " + words.group());
                }
            }
        }
        return left;
    }
}
