import java.io.IOException;
import java.nio.file.Files;
import java.nio.file.Path;
import java.util.ArrayList;
import java.util.List;
import java.util.TreeSet;
import java.util.regex.Matcher;
import java.util.regex.Pattern;

/** Makes the calls that README.md tells, so that it never shows an answer that the class does not give. */
public final class ReadmeTest {
    private static final Checks CHECKS = new Checks("ReadmeTest");
    private static final String NEW_OBJECT = "SpanShelves x = new SpanShelves();";
    private static final Pattern CALL = Pattern.compile("x\\.(\\w+)\\((.*)\\); *(?:// (throws \\w+|[-\\w]+)(?::.*)?)?");

    public static void main(String[] arguments) throws IOException {
        Run run = null;
        TreeSet<String> shown = new TreeSet<>();
        for (String line : examples()) {
            Matcher call = CALL.matcher(line);
            if (line.equals(NEW_OBJECT)) {
                run = new Run(CHECKS, "README");
            } else if (run == null || !call.matches()) {
                CHECKS.same("a line that is no call", "", line);
            } else {
                shown.add(call.group(1));
                run.due(call.group(1) + "(" + decimals(call.group(2)) + ")", answer(call.group(3)));
            }
        }
        CHECKS.same("the calls that are shown", Run.face(), shown);
        CHECKS.finish();
    }

    private static List<String> examples() throws IOException {
        List<String> lines = new ArrayList<>();
        boolean isInside = false;
        for (String line : Files.readAllLines(Path.of("README.md"))) {
            if (line.startsWith("```")) {
                isInside = line.equals("```java");
            } else if (isInside) {
                lines.add(line);
            }
        }
        return lines;
    }

    /** A line without a comment is right only for begin(), whose answer comes back as null. */
    private static String answer(String comment) {
        return comment == null ? null : comment.replace(' ', '.');
    }

    private static String decimals(String arguments) {
        List<String> out = new ArrayList<>();
        for (String word : arguments.isEmpty() ? new String[0] : arguments.split(", ")) {
            boolean isHex = word.startsWith("0x");
            out.add(isHex ? "" + Integer.parseUnsignedInt(word.substring(2), 16) : word.replace("L", ""));
        }
        return String.join(", ", out);
    }
}
