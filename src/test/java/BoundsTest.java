import java.io.IOException;

/** Each sentence of the document that names a bound, by a test of its own. */
public final class BoundsTest {
    public static void main(String[] args) throws IOException {
        Sentences say = new Sentences(new Check("BoundsTest"));
        Bounds[] parts = {new BoundsOfTexts(say), new BoundsOfDays(say), new BoundsOfForetold(say), new BoundsOfCalls(say)};
        for (Bounds part : parts) {
            part.all();
        }
        say.end();
    }
}
