import java.io.IOException;
import java.nio.charset.StandardCharsets;
import java.nio.file.Files;
import java.nio.file.Path;
import java.util.LinkedHashMap;
import java.util.Map;

/**
 * The document, cut into its sections. Each sentence is taken out of it by the test that looks
 * at it, so that in the end all that is left was looked at by no test.
 */
final class Sentences {
    private static final Path DOCUMENT = Path.of("../shared/DOC.md");

    /** For each heading, what no test has taken out yet. */
    private final Map<String, String> left = new LinkedHashMap<>();
    /** Where the class is built without the document, the tests still run. */
    private final boolean documentIsThere = Files.exists(DOCUMENT);
    private String section = "";

    Sentences() throws IOException {
        if (documentIsThere) {
            read();
        } else {
            System.out.println("there is no " + DOCUMENT + " to compare the tests with");
        }
    }

    private void read() throws IOException {
        String heading = "";
        for (String line : Files.readString(DOCUMENT, StandardCharsets.UTF_8).split("\n")) {
            if (line.matches("#+ .*|[1-5]\\. [A-Z ]+")) {
                heading = line.replaceFirst("#+ ", "").replaceFirst(":.*", "");
                left.put(heading, "");
            } else if (!heading.isEmpty()) {
                left.merge(heading, " " + line.replaceFirst("^- ", ""), String::concat);
            }
        }
        // RulesTests compares the face, and with it the heads of the calls
        left.remove("The public face");
        left.replaceAll((key, text) -> plain(key.startsWith("Promise")
                ? text.replaceFirst("`[^`]*`:", "") : text));
    }

    private static String plain(String text) {
        return text.replaceAll("```(text)?", " ").replace("`", "").replaceAll("\\s+", " ");
    }

    void section(String heading) {
        section = heading;
        Check.about = heading + ": ";
        Check.due("a section of the document", left.containsKey(heading), documentIsThere);
    }

    /** A sentence that names a bound, and the test that fails if it is broken. */
    void says(String sentence, Runnable test) {
        takeOut(sentence);
        Check.about = section + ", \"" + sentence + "\": ";
        int before = Check.done();
        Check.due("the test", Check.outcome(() -> {
            test.run();
            return "ends";
        }), "ends");
        Check.due("answers looked at", Check.done() - before > 1, true);
        Check.about = section + ": ";
    }

    void namesNoBound(String... sentences) {
        for (String sentence : sentences) {
            takeOut(sentence);
        }
    }

    private void takeOut(String sentence) {
        String text = left.getOrDefault(section, "");
        int at = text.indexOf(sentence);
        Check.due("the document says \"" + sentence + "\"", at >= 0, documentIsThere);
        if (at >= 0) {
            left.put(section, text.substring(0, at) + "|" + text.substring(at + sentence.length()));
        }
    }

    void end() {
        Check.about = "";
        for (Map.Entry<String, String> entry : left.entrySet()) {
            Check.due("what no test looks at in " + entry.getKey(),
                    entry.getValue().replaceAll("[|;,.: ]", ""), "");
        }
    }
}
