import java.util.BitSet;
import java.util.regex.Matcher;
import java.util.regex.Pattern;

/**
 * The sentences of the document, each with a test of its own. At the end every word of the document must stand in a
 * sentence that has one.
 */
final class Sentences {
    private static final Pattern WORD = Pattern.compile("\\w+");

    private final Check check;
    private final String document;
    private final BitSet tested = new BitSet();
    private String sentence = "";
    private int sentences = 0;

    Sentences(Check check, String document) {
        this.check = check;
        this.document = document;
    }

    /** The document says this, in one place; the test fails if it does not hold. */
    void says(String quote, Runnable test) {
        sentence = quote;
        sentences++;
        int place = document.indexOf(quote);
        check.holds("the document says, once: " + quote, place >= 0 && document.indexOf(quote, place + 1) < 0);
        if (place >= 0) {
            tested.set(place, place + quote.length());
        }
        test.run();
    }

    void due(String what, long got, long want) {
        check.due("\"" + sentence + "\": " + what, got, want);
    }

    void holds(String what, boolean isSo) {
        check.holds("\"" + sentence + "\": " + what, isSo);
    }

    void end() {
        Matcher word = WORD.matcher(document);
        while (word.find()) {
            int from = Math.max(0, word.start() - 40);
            int to = Math.min(document.length(), word.end() + 20);
            check.holds("each word has a test: .." + document.substring(from, to) + "..",
                    tested.nextClearBit(word.start()) >= word.end());
        }
        System.out.println(sentences + " sentences have a test");
        check.end();
    }
}
