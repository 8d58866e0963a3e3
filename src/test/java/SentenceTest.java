import java.io.IOException;

/** The document sentence by sentence: each one has runs of its own, named by its words. */
public final class SentenceTest {
    public static void main(String[] args) throws IOException {
        DrawingSentences.check();
        PlanSentences.check();
        ColouringSentences.check();
        TextSentences.check();
        UndoSentences.check();
        PromiseSentences.check();
        if (Document.isThere()) {
            Sentence.checkDocument(Document.lines());
        }
        Run.end();
    }
}
