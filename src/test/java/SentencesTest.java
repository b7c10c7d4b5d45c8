import java.io.IOException;

/**
 * Each sentence of the document by a test of its own. An argument runs only the tests whose names hold
 * it, as "Promise 5:" or "KNOCK or less"; the argument "names" tells all the names.
 */
public final class SentencesTest {
    private SentencesTest() {
    }

    public static void main(String[] args) throws IOException {
        Sentences sentences = new Sentences(args.length > 0 ? args[0] : "");
        CardSentences.test(sentences);
        LayingSentences.test(sentences);
        DealSentences.test(sentences);
        TurnSentences.test(sentences);
        KnockSentences.test(sentences);
        TextSentences.test(sentences);
        ChangeSentences.test(sentences);
        ChangePromises.test(sentences);
        HistoryPromises.test(sentences);
        StatePromises.test(sentences);
        ReasonPromises.test(sentences);
        ReportPromises.test(sentences);
        if (args.length > 0 && args[0].equals("names")) {
            sentences.tellNames();
        }
        sentences.end("SentencesTest");
    }
}
