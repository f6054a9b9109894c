import java.io.IOException;
import java.nio.file.Files;
import java.nio.file.Path;

/** All promises, sentence by sentence: each one of the document has a test of its own. */
public final class SentencesTest {
    private static final Path DOCUMENT = Path.of("../shared/DOC.md");

    private SentencesTest() {
    }

    public static void main(String[] args) throws IOException {
        Sentences doc = new Sentences(Files.readString(DOCUMENT), new Checks("SentencesTest"));
        Chapter[] chapters = {
            new FilesTerms(doc), new FoldingTerms(doc), new ArchiveTerms(doc), new ReadingTerms(doc),
            new SavingTerms(doc), new TapePromises(doc), new FilesPromises(doc),
            new ArchivePromises(doc), new LookPromises(doc)};
        for (Chapter chapter : chapters) {
            chapter.hold();
        }
        doc.finish();
    }
}
