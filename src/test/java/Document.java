import java.io.IOException;
import java.nio.file.Files;
import java.nio.file.Path;
import java.util.ArrayList;
import java.util.List;
import java.util.regex.Matcher;
import java.util.regex.Pattern;

/** The document that the class keeps to. Found from where src lies. */
final class Document {
    private static final Path PLACE = Path.of("../shared/DOC.md");
    private static final Pattern FACE = Pattern.compile("(?s)```java\n(.*?)```");
    private static final Pattern PROMISE = Pattern.compile("(?s)\n## Promise (\\d+): [^\n]+\n(.*?)(?=\n## )");

    private final String text;

    Document() throws IOException {
        text = Files.readString(PLACE);
    }

    /** The lines of the public face. */
    List<String> face() {
        Matcher face = FACE.matcher(text);
        if (!face.find()) {
            throw new IllegalStateException("the document has no face");
        }
        return face.group(1).lines().map(String::trim).toList();
    }

    /** What the promises say, that of number n in place n less 1. */
    List<String> promises() {
        List<String> promises = new ArrayList<>();
        Matcher promise = PROMISE.matcher(text);
        while (promise.find()) {
            promises.add(promise.group(2).trim());
            if (Integer.parseInt(promise.group(1)) != promises.size()) {
                throw new IllegalStateException("the promises do not stand in their order");
            }
        }
        return promises;
    }

    /** All sentences, up to what is not promised: without the face, headings and rulings, all white space alike. */
    String sentences() {
        int end = text.indexOf("## Not promised");
        if (end < 0) {
            throw new IllegalStateException("the document does not say what is not promised");
        }
        return FACE.matcher(text.substring(0, end)).replaceAll(" ").replaceAll("```(text)?", " ")
                .replaceAll("(?m)^#+ .*$", " ").replaceAll("======== \\d ", " ").replaceAll("\\s+", " ");
    }
}
