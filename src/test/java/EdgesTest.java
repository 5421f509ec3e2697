import java.io.IOException;
import java.nio.file.Path;

/** Each sentence of the document, told by its own words, with a test that fails if it is broken. */
public final class EdgesTest {
    public static void main(String[] args) throws IOException {
        Edges.read(Path.of("../shared/DOC.md"));
        EdgesOfTerms.all();
        EdgesOfRefusals.all();
        EdgesOfTexts.all();
        EdgesOfThereIs.all();
        EdgesOfSpan.all();
        EdgesOfWouldBe.all();
        EdgesOfChanges.all();
        EdgesOfDays.all();
        EdgesOfKept.all();
        Edges.allIsQuoted();
        Check.finish();
    }
}
