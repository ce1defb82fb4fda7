import java.io.IOException;

/**
 * All of the document, sentence by sentence: each check names the heading (that of a promise is
 * "Promise 2: feed" and so on) and the words that it is about. Sentences makes sure that no words
 * are left out.
 */
public final class SentenceTest {

    public static void main(String[] args) throws IOException {
        Sentences.read();
        FaceSentences.check();
        BookSentences.check();
        BridgeSentences.check();
        PlanSentences.check();
        StateSentences.check();
        WouldBeSentences.check();
        Sentences.requireAll();
        Checks.end();
    }
}
