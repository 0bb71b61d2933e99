import java.io.IOException;
import java.nio.file.Files;
import java.nio.file.Path;
import java.util.Arrays;

/** The document's "Terms" (section 0) and its promises, and which of their words a test has quoted. */
final class Document {
    private static final int PROMISES = 23;

    private final String[] sections = new String[PROMISES + 1];
    private final boolean[][] quoted = new boolean[PROMISES + 1][];

    Document(Path file) throws IOException {
        String text = Files.readString(file).replaceAll("```(text)?", " ").replaceAll("\\s+", " ");
        sections[0] = between(text, "## Terms ", "## Promise 1:");
        for (int k = 1; k <= PROMISES; k++) {
            String end = k == PROMISES ? "## Not promised" : "## Promise " + (k + 1) + ":";
            String section = between(text, "## Promise " + k + ":", end);
            sections[k] = section.substring(section.indexOf("`: ") + 3);
        }
        for (int k = 0; k <= PROMISES; k++) {
            quoted[k] = new boolean[sections[k].length()];
        }
    }

    private static String between(String text, String start, String end) {
        int from = text.indexOf(start) + start.length();
        return text.substring(from, text.indexOf(end, from)).strip();
    }

    /** A sentence of the promise, or else of the terms. */
    void quote(int promise, String sentence) {
        int section = sections[promise].contains(sentence) ? promise : 0;
        int at = sections[section].indexOf(sentence);
        Checks.due("promise " + promise + " or the terms say: " + sentence, true, at >= 0);
        if (at >= 0) {
            Arrays.fill(quoted[section], at, at + sentence.length(), true);
        }
    }

    void nothingIsLeftOut() {
        for (int k = 0; k <= PROMISES; k++) {
            StringBuilder left = new StringBuilder();
            for (int i = 0; i < quoted[k].length; i++) {
                left.append(quoted[k][i] ? ' ' : sections[k].charAt(i));
            }
            String words = left.toString().replaceAll("[^A-Za-z0-9]+", " ").strip();
            Checks.due("section " + k + ": what no test quotes", "", words);
        }
    }
}
