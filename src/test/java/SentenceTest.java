import java.io.IOException;

/**
 * Each sentence of the document that names a boundary, and each other one of its terms and
 * promises, has a test of its own here, which names it.
 */
public final class SentenceTest {
    public static void main(String[] args) throws IOException {
        Sentences all = new Sentences();
        TextSentences.say(all);
        FaultSentences.say(all);
        StateSentences.say(all);
        SlotSentences.say(all);
        WordSentences.say(all);
        all.end("SentenceTest");
    }
}
