import java.io.IOException;
import java.nio.file.Files;
import java.nio.file.Path;
import java.util.ArrayList;
import java.util.List;
import java.util.regex.Matcher;
import java.util.regex.Pattern;

/** The document's sentences, so that each can be asked for its test. */
final class Document {
    private static final Path FILE = Path.of("../shared/DOC.md");
    /** A point, with a bracket that it stands in, but not the points of " .. ". */
    private static final String END_OF_SENTENCE = "(?<![.\\s])\\.\\)?(?=\\s|$)";

    private final String text;

    Document() throws IOException {
        text = Files.readString(FILE);
    }

    /** The form of a promise's call, as "long player(int kind)"; empty if there is no such promise. */
    String formOf(int number) {
        Matcher found = Pattern.compile("\n## Promise " + number + ": [^\n]*\n\\s*`([^`]*)`: ").matcher(text);
        return found.find() ? found.group(1) : "";
    }

    /** Of a promise what stands behind the call's form. */
    List<String> ofPromise(int number) {
        Matcher found = Pattern.compile("(?s)\n## Promise " + number + ": [^\n]*\n(.*?)\n## ").matcher(text);
        return found.find() ? sentences(found.group(1).replaceFirst("(?s)^.*?`: ", "")) : List.of();
    }

    /** Without what it says of the interface's headings, which LanguageRules reads. */
    List<String> ofTerms() {
        Matcher found = Pattern.compile("(?s)\n## Terms\n(.*?)\nAhead of the calls ").matcher(text);
        return found.find() ? sentences(found.group(1).replace("```text", "").replace("```", "")) : List.of();
    }

    private static List<String> sentences(String part) {
        List<String> all = new ArrayList<>();
        for (String one : part.replaceAll("\\n\\s*[0-9]\\. ", "\n").split(END_OF_SENTENCE)) {
            String plain = one.replaceAll("\\s+", " ").strip();
            if (!plain.isEmpty()) {
                all.add(plain);
            }
        }
        return all;
    }
}
