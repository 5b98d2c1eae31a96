/** Tests that each are about one sentence of the document and the edge that it names. */
abstract class Edges extends Checks {
    static final Sentences SENTENCES = new Sentences();

    static void holds(String head, String sentence, Runnable test) {
        about = head + ", '" + sentence + "': ";
        String fault = SENTENCES.mark(head, sentence);
        if (!fault.isEmpty()) {
            complain(fault);
        }
        try {
            test.run();
        } catch (RuntimeException e) {
            complain("a call threw " + e);
        }
        about = "";
    }
}
