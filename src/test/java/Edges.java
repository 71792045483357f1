import java.io.IOException;
import java.nio.file.Files;
import java.nio.file.Path;

/** Makes runs for sentences of the document, each quoted as it stands there, so that none is tested that is not told. */
final class Edges {
    private static final Path DOCUMENT = Path.of("..", "shared", "DOC.md");

    private final Checks checks;
    private final String document;
    private String section = "";
    private String quote = "";

    Edges(String title) {
        checks = new Checks(title);
        document = read();
    }

    private static String read() {
        try {
            return Files.readString(DOCUMENT);
        } catch (IOException e) {
            System.out.println("the quotes are not compared: " + DOCUMENT + " cannot be read");
            return "";
        }
    }

    /** The runs that follow are for this sentence, which stands under a heading that begins so. */
    Run says(String heading, String sentence) {
        section = heading;
        quote = sentence;
        if (!document.isEmpty()) {
            checks.same(heading + " says: " + sentence, true, textUnder(heading).contains(sentence));
        }
        return run("");
    }

    private String textUnder(String heading) {
        int start = document.indexOf("\n## " + heading);
        int end = start < 0 ? -1 : document.indexOf("\n## ", start + 1);
        return start < 0 ? "" : end < 0 ? document.substring(start) : document.substring(start, end);
    }

    /** Another run for the same sentence. */
    Run run(String what) {
        String start = quote.length() > 70 ? quote.substring(0, 70) + ".." : quote;
        return new Run(checks, section + " \"" + start + "\" " + what);
    }

    void same(String what, Object due, Object got) {
        checks.same(section + ": " + what, due, got);
    }

    void finish() {
        checks.finish();
    }
}
