import java.io.IOException;

/** Each sentence of the document, tried at its boundaries; Sentence tells which ones have no test. */
public final class SentencesTest {
    private SentencesTest() {
    }

    public static void main(String[] args) throws IOException {
        Sentence.readDocument();
        TextSentences.run();
        WalkSentences.run();
        KnotSentences.run();
        StreetSentences.run();
        ErrandSentences.run();
        LaterSentences.run();
        Sentence.finish();
        Check.finish();
    }
}
