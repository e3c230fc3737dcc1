/** Each sentence of the document that names a boundary case has a test that names the sentence. */
public final class EdgesTest {
    public static void main(String[] args) {
        TextEdges.all();
        DeedEdges.all();
        AskingEdges.all();
        KindEdges.all();
        PromiseEdges.all();
        AnswerEdges.all();
        Sentences.noneIsLeft();
        Check.end();
    }
}
