/** Each sentence of the document has a test of its own, which names it: its edges, and what is refused. */
public final class SentenceTest {
    public static void main(String[] args) {
        TextSentences.run();
        ChainSentences.run();
        FlowSentences.run();
        BestSentences.run();
        WalkSentences.run();
        ChangeSentences.run();
        ChainlessSentences.run();
        Sentences.finish();
    }
}
