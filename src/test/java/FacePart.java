import java.io.IOException;
import java.io.UncheckedIOException;
import java.nio.file.Files;
import java.nio.file.Path;
import java.util.ArrayList;
import java.util.List;
import java.util.regex.Matcher;
import java.util.regex.Pattern;

/** What the interface says ahead of the calls. Found from where src lies. */
final class FacePart extends Part {
    private static final Path CLASS = Path.of("src/main/java/ShutWays.java");
    private static final Pattern CALL = Pattern.compile("(?m)^    public int (\\w+)\\(");

    FacePart(Sentences say) {
        super(say);
    }

    void all() {
        say.says("Ahead of the calls `write`, `erase`, `fault`, `town`, `street`, `lane`, `as` the interface says: ---- what is"
                + " told.", () -> dueBelow("what is told", "write", "erase", "fault", "town", "street", "lane", "as"));
        say.says("Ahead of the calls `way`, `go`, `flood`, `fair`, `keep`, `back` the interface says: ---- days and nights.",
                () -> dueBelow("days and nights", "way", "go", "flood", "fair", "keep", "back"));
        say.says("Ahead of the calls `later`, `never`, `apart`, `round`, `passed`, `most`, `build`, `chosen`, `carts` the"
                + " interface says: ---- foretold.", () -> dueBelow("foretold", "later", "never", "apart", "round", "passed",
                "most", "build", "chosen", "carts"));
        say.says("Ahead of the calls `night`, `forget`, `judge`, `fits`, `count` the interface says: ---- nights told.",
                () -> dueBelow("nights told", "night", "forget", "judge", "fits", "count"));
    }

    /** These calls, and no others, stand below this title in the class. */
    private void dueBelow(String title, String... calls) {
        List<String> found = new ArrayList<>();
        for (String section : classText().split("// ---- ")) {
            if (section.startsWith(title + "\n")) {
                Matcher call = CALL.matcher(section);
                while (call.find()) {
                    found.add(call.group(1));
                }
            }
        }
        say.holds("below it stand " + found, found.equals(List.of(calls)));
    }

    private static String classText() {
        try {
            return Files.readString(CLASS);
        } catch (IOException e) {
            throw new UncheckedIOException(e);
        }
    }
}
