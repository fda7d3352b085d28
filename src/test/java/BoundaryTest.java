import java.io.IOException;
import java.nio.file.Files;
import java.nio.file.Path;
import java.util.Set;
import java.util.TreeSet;
import java.util.regex.Matcher;
import java.util.regex.Pattern;

/**
 * The boundary cases of all fifteen promises, a test for each sentence; and that there is one for each
 * sentence of each promise, word for word. The document's path is the first argument.
 */
public final class BoundaryTest {
    private static final Pattern SECTION = Pattern.compile("(?ms)^## (Promise \\d+|Terms)[^\\n]*\\n(.*?)(?=^## |\\z)");
    private static final Pattern FACE = Pattern.compile("(?m)^`[^`]*`: ");

    public static void main(String[] args) throws IOException {
        Boundaries boundaries = new Boundaries();
        new TermBounds(boundaries).run();
        new StatementBounds(boundaries).run();
        new SearchBounds(boundaries).run();
        new HitBounds(boundaries).run();
        new FollowsBounds(boundaries).run();
        compareWithDocument(boundaries, Path.of(args.length > 0 ? args[0] : "../shared/DOC.md"));
        boundaries.end("BoundaryTest");
    }

    private static void compareWithDocument(Boundaries boundaries, Path document) throws IOException {
        if (!Files.isReadable(document)) {
            System.out.println("BoundaryTest: no document at " + document + ", its sentences are not compared");
            return;
        }
        Set<String> written = sentences(Files.readString(document));
        Set<String> quoted = boundaries.quoted();
        boundaries.begin("DOC.md", "the sentences themselves");
        for (String sentence : written) {
            if (sentence.startsWith("Promise")) {
                boundaries.due("a test of its own for " + sentence, true, () -> quoted.contains(sentence));
            }
        }
        for (String sentence : quoted) {
            boundaries.due("the document says " + sentence, true, () -> written.contains(sentence));
        }
    }

    /** Each with its section ahead of it. */
    private static Set<String> sentences(String document) {
        Set<String> found = new TreeSet<>();
        Matcher section = SECTION.matcher(document);
        while (section.find()) {
            for (String paragraph : FACE.matcher(section.group(2)).replaceAll("").split("\\n\\s*\\n")) {
                for (String sentence : paragraph.strip().split("(?<=\\.) (?=[A-Z(])")) {
                    if (!sentence.isEmpty()) {
                        found.add(section.group(1) + ": " + sentence);
                    }
                }
            }
        }
        return found;
    }
}
