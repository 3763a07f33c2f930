/** Each sentence of the document that names a boundary, by a test of its own; and that none was left out. */
public final class EdgesTest {
    private EdgesTest() {
    }

    public static void main(String[] args) {
        RowEdges.run();
        TextEdges.run();
        DeedEdges.run();
        ForetoldEdges.run();
        AskedEdges.run();
        RefusalEdges.run();
        for (String sentence : Document.unquoted()) {
            Check.dueTrue("a sentence has a test: " + sentence, false);
        }
        Check.end();
    }
}
