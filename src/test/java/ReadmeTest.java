import java.nio.file.Files;
import java.nio.file.Path;
import java.util.regex.Matcher;
import java.util.regex.Pattern;

/** The example in README.md: a call's comment begins with its answer. */
public final class ReadmeTest {
    private static final Pattern BLOCK = Pattern.compile("(?s)```java\n(.*?)```");
    private static final Pattern CALL = Pattern.compile("h\\.(\\w+)\\((-?\\d+)(?:, (-?\\d+))?\\); +// (-?\\d+)(?:: .*)?");
    private static final String START = "HalfPel h = new HalfPel();";

    public static void main(String[] args) throws Exception {
        Due due = new Due();
        due.sentence("README.md says how to use the class.");
        Matcher block = BLOCK.matcher(Files.readString(Path.of("README.md")));
        due.holds(block.find(), "README.md has an example");
        String[] lines = block.group(1).split("\n");
        due.holds(lines[0].equals(START), "the example begins with a new object");
        HalfPel h = new HalfPel();
        for (int n = 1; n < lines.length; n++) {
            answers(due, h, lines[n]);
        }
        due.end();
    }

    private static void answers(Due due, HalfPel h, String line) {
        Matcher call = CALL.matcher(line);
        boolean isCall = call.matches();
        due.holds(isCall, "a call and its answer: " + line);
        if (isCall) {
            int first = Integer.parseInt(call.group(2));
            int second = call.group(3) == null ? 0 : Integer.parseInt(call.group(3));
            int got = answer(h, call.group(1), first, second);
            due.holds(got == Integer.parseInt(call.group(4)), line + " (answered " + got + ")");
        }
    }

    private static int answer(HalfPel h, String method, int first, int second) {
        switch (method) {
            case "setPixel":
                return h.setPixel(first, second);
            case "setRounding":
                return h.setRounding(first);
            case "sample":
                return h.sample(first, second);
            case "pixel":
                return h.pixel(first);
            default:
                throw new IllegalArgumentException("no method of the class: " + method);
        }
    }
}
