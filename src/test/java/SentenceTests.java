/** Each sentence of the document, by its own words, with a test of its own. */
public final class SentenceTests {
    private SentenceTests() {
    }

    public static void main(String[] args) throws Exception {
        Sentences s = Sentences.ofTheDocument();
        TermSentences.test(s);
        RowSentences.test(s);
        DeedSentences.test(s);
        BellSentences.test(s);
        RoundSentences.test(s);
        HeardSentences.test(s);
        ToldSentences.test(s);
        WhichSentences.test(s);
        s.end();
    }
}
