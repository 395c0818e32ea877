import java.nio.file.Path;

/** Every sentence of the document's terms and promises has a test of its own; none is left out. */
public final class SentencesTest {
    public static void main(String[] args) throws Exception {
        Sentences.open(Path.of("../shared/DOC.md"));
        RefusalSentences.test();
        TableSentences.test();
        PrimeSentences.test();
        GuessSentences.test();
        NearSentences.test();
        DeedSentences.test();
        UndoSentences.test();
        BookSentences.test();
        Sentences.close();
        Check.end();
    }
}
