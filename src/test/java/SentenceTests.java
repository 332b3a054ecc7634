import java.io.IOException;

/** For each sentence of the document that names a bound, a test of its own. */
public final class SentenceTests {
    public static void main(String[] args) throws IOException {
        Sentences s = new Sentences();
        TermSentences.all(s);
        TextSentences.all(s);
        ChangeSentences.all(s);
        SetupSentences.all(s);
        ValueSentences.all(s);
        MoveSentences.all(s);
        UndoSentences.all(s);
        s.end();
        Check.end("SentenceTests");
    }
}
