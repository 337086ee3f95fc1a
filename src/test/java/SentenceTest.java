/** Each sentence of the document has a test of its own. */
public final class SentenceTest {
    public static void main(String[] args) throws Exception {
        Sentence.readDocument();
        TextSentences.run();
        RowSentences.run();
        PlanSentences.run();
        CaseSentences.run();
        QuestionSentences.run();
        ImageSentences.run();
        Sentence.allAreQuoted();
        Check.over("SentenceTest");
    }
}
