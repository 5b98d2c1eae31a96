/** One test for each sentence of the document, named by that sentence. */
public final class EdgeTest extends Edges {
    public static void main(String[] args) {
        TextEdges.all();
        TermEdges.all();
        ActEdges.all();
        QuestionEdges.all();
        String left = SENTENCES.untested();
        if (!left.isEmpty()) {
            complain("sentences without a test (| stands for those that have one):\n" + left);
        }
        if (wrong > 0) {
            System.exit(1);
        }
    }
}
