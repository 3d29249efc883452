import java.io.IOException;

/** Each sentence of the document, from its first line on, by a test of its own. */
public final class DocumentTest {
    public static void main(String[] args) throws IOException {
        Sentences say = new Sentences(new Check("DocumentTest"), new Document().sentences());
        Part[] parts = {new OpeningPart(say), new FacePart(say), new TextsPart(say), new DaysPart(say),
            new ForetoldPart(say), new CallsPart(say)};
        for (Part part : parts) {
            part.all();
        }
        say.end();
    }
}
