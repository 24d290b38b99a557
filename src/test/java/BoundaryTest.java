/** Each sentence of the document's terms and promises, with a test of its own: what is too small, too large, empty, full, refused. */
public final class BoundaryTest {
    private BoundaryTest() { }

    public static void main(String[] args) throws Exception {
        TextSentences.lookAtAll();
        TermSentences.lookAtAll();
        CallSentences.lookAtAll();
        Sentences.lookAtDocument();
        Sentences.close();
    }
}
