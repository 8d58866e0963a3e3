import java.io.IOException;
import java.nio.file.Files;
import java.nio.file.Path;

/** The document sentence by sentence: each one has runs of its own, named by its words. */
public final class SentenceTest {
    public static void main(String[] args) throws IOException {
        DrawingSentences.check();
        PlanSentences.check();
        ColouringSentences.check();
        TextSentences.check();
        UndoSentences.check();
        PromiseSentences.check();
        Path document = Path.of(args[1]);
        if (Files.exists(document)) {
            Sentence.checkDocument(document);
        } else {
            System.out.println("not looked through, since it is not there: " + document);
        }
        Run.end();
    }
}
