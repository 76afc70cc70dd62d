/**
 * Goes through the document sentence by sentence: each one is named with the promise that it stands
 * in, and has a test with its boundary cases. What the document says and no test names is complained of.
 */
public final class SentencesTest {
    private SentencesTest() {
    }

    public static void main(String[] args) {
        UseSentences.all();
        TermsSentences.all();
        RoundSentences.all();
        TreeSentences.all();
        MakingSentences.all();
        SearchSentences.all();
        LookingSentences.all();
        Document.compare(Bench.sentences());
        Bench.finish();
    }
}
