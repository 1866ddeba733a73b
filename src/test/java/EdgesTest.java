import java.io.IOException;

/** Each sentence of the document that names a boundary case, or a refusal, has a test of its own here. */
public final class EdgesTest {
    public static void main(String[] args) throws IOException {
        Check check = new Check();
        new OpeningEdges(check).all();
        new RowEdges(check).all();
        new QuestionEdges(check).all();
        new RangeEdges(check).all();
        new AnswerEdges(check).all();
        new RefusalEdges(check).all();
        Document.tellUnquoted(check.sentences());
        System.out.println("EdgesTest: " + check.sentences().size() + " sentences");
        check.end("EdgesTest");
    }
}
