import java.io.IOException;
import java.nio.file.Files;
import java.nio.file.Path;

/**
 * Each sentence of the document that names a boundary case, by a test of its own: the words stand at its head.
 * Behind them the words are held against the document itself, so that no sentence is left out.
 * Run from the project's root.
 */
public final class BoundaryTest {
    private static final Path DOCUMENT = Path.of("..", "shared", "DOC.md");

    public static void main(String[] args) throws IOException {
        TermsBounds.all();
        TextBounds.all();
        LookBounds.all();
        TriedBounds.all();
        NotesBounds.all();
        HouseBounds.all();
        CallBounds.all();
        Check.endOfSentences();
        // Only what the tests name is held against the document: where it is not at hand, they still tell of the class.
        if (Files.isReadable(DOCUMENT) && Files.readString(DOCUMENT).contains("## Promise 30")) {
            new Document(DOCUMENT).compare(Check.SENTENCES);
        } else {
            System.out.println("no " + DOCUMENT + ": the sentences are not held against it");
        }
        Check.end();
    }
}
