import java.io.IOException;
import java.nio.file.Files;
import java.nio.file.Path;
import java.util.regex.Matcher;
import java.util.regex.Pattern;

/** What README.md shows is so: its calls end, and one with a number behind it answers this number. */
public final class ReadmeTest {
    private static final Pattern CALL = Pattern.compile("x\\.(\\w+)\\(([-\\d, ]*)\\);(?: *// (-?\\d+)?.*)?");

    private ReadmeTest() {
    }

    public static void main(String[] args) throws IOException {
        String text = Files.readString(Path.of("README.md"));
        int start = text.indexOf("```java\n") + "```java\n".length();
        String[] lines = text.substring(start, text.indexOf("```", start)).split("\n");
        Checks.due("the first line", "LockstepNet x = new LockstepNet();", lines[0]);
        LockstepNet x = new LockstepNet();
        int numbers = 0;
        for (int i = 1; i < lines.length; i++) {
            Matcher call = CALL.matcher(lines[i]);
            if (!lines[i].isBlank()) {
                Checks.due(lines[i] + " is a call", true, call.matches());
                String answer = Checks.answer(() -> Calls.on(x, call.group(1), numbersIn(call.group(2))));
                boolean told = call.group(3) != null;
                numbers += told ? 1 : 0;
                Checks.due(lines[i] + " does not throw", false, answer.endsWith("Exception"));
                Checks.due(lines[i], told ? call.group(3) : answer, answer);
            }
        }
        Checks.due("some calls have a number", true, numbers > 0);
        Checks.end();
    }

    private static int[] numbersIn(String list) {
        return list.isBlank() ? new int[0]
                : Pattern.compile(", *").splitAsStream(list).mapToInt(Integer::parseInt).toArray();
    }
}
