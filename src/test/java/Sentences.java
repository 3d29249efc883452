import java.io.IOException;
import java.nio.file.Files;
import java.nio.file.Path;
import java.util.BitSet;
import java.util.regex.Matcher;
import java.util.regex.Pattern;

/**
 * The sentences of the document that name a bound, each with a test of its own. At the end every place of the document
 * that names a bound must stand in a sentence that has one.
 */
final class Sentences {
    private static final Path DOCUMENT = Path.of("../shared/DOC.md");
    private static final Pattern BOUND = Pattern.compile("\\d \\.\\.|at most|at first|none|nothing|empty|unlike|cannot"
            + "|too soon|of several|above|\\bleast|greatest|NONE|UNKNOWN|OUTSIDE|\\bNOT\\b|FULL");

    private final Check check;
    private final String document;
    private final BitSet tested = new BitSet();
    private String sentence = "";
    private int sentences = 0;

    Sentences(Check check) throws IOException {
        this.check = check;
        this.document = rulesOf(Files.readString(DOCUMENT));
    }

    /** From the first rule to the last promise, without the face, all white space alike. */
    private static String rulesOf(String text) {
        String plain = text.replaceAll("(?s)```java.*?```", " ").replaceAll("```(text)?", " ").replaceAll("\\s+", " ");
        int from = plain.indexOf("======== 1 ");
        int to = plain.indexOf("## Not promised");
        if (from < 0 || to < from) {
            throw new IllegalStateException("the document is not as it was");
        }
        return plain.substring(from, to);
    }

    /** The document says this, in one place; the test fails if it does not hold. */
    void says(String quote, Runnable test) {
        sentence = quote;
        sentences++;
        int place = document.indexOf(quote);
        check.holds("the document says, once: " + quote, place >= 0 && document.indexOf(quote, place + 1) < 0);
        if (place >= 0) {
            tested.set(place, place + quote.length());
        }
        test.run();
    }

    void due(String what, long got, long want) {
        check.due("\"" + sentence + "\": " + what, got, want);
    }

    void holds(String what, boolean isSo) {
        check.holds("\"" + sentence + "\": " + what, isSo);
    }

    void end() {
        Matcher bound = BOUND.matcher(document);
        while (bound.find()) {
            int from = Math.max(0, bound.start() - 40);
            int to = Math.min(document.length(), bound.end() + 20);
            check.holds("a bound has a test: .." + document.substring(from, to) + "..",
                    tested.nextClearBit(bound.start()) >= bound.end());
        }
        System.out.println(sentences + " sentences have a test");
        check.end();
    }
}
