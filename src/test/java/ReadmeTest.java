import java.io.IOException;
import java.nio.file.Files;
import java.nio.file.Path;
import java.util.regex.Matcher;
import java.util.regex.Pattern;

/**
 * What README.md shows answers as it says: each line x.call(..); // answer: .. of its examples. A
 * line that makes x begins a new object.
 */
public final class ReadmeTest {
    private static final Pattern CALL = Pattern.compile("x\\.(\\w+)\\(([^)]*)\\);");
    private static final Pattern ANSWER = Pattern.compile("// (-?[0-9]+|[A-Z]+)(:.*)?");

    public static void main(String[] args) throws IOException {
        StageSwitch x = new StageSwitch();
        boolean inExample = false;
        StringBuilder shown = new StringBuilder(" ");
        for (String line : Files.readAllLines(Path.of("README.md"))) {
            if (line.startsWith("```")) {
                inExample = line.equals("```java");
            } else if (inExample && line.startsWith("StageSwitch x = ")) {
                x = new StageSwitch();
            } else if (inExample && line.startsWith("x.")) {
                shown.append(take(x, line)).append(' ');
            }
        }
        for (String name : Calls.NAMES) {
            Due.holds("README.md shows " + name, shown.indexOf(" " + name + " ") >= 0);
        }
        Due.finish();
    }

    /** One or more calls; the answer of the last one is told. */
    private static String take(StageSwitch x, String line) {
        int comment = line.indexOf("//");
        Matcher told = ANSWER.matcher(comment < 0 ? "" : line.substring(comment).trim());
        Matcher call = CALL.matcher(line);
        StringBuilder names = new StringBuilder();
        long answer = 0;
        while (call.find()) {
            int[] numbers = Calls.numbers(call.group(2).replace("StageSwitch.", ""));
            answer = Calls.answer(x, Calls.NAMES.indexOf(call.group(1)), numbers);
            names.append(call.group(1)).append(' ');
        }
        if (!told.matches() || names.length() == 0) {
            throw new IllegalStateException("no such line: " + line);
        }
        Due.due("README.md: " + line, answer, Calls.number(told.group(1)));
        return names.toString();
    }
}
