/** A test of its own for each sentence of the document; none may be left without one. */
final class EdgesTest {
    private static void noneIsLeft() {
        Check.due("promises in the document, and what stands around them", 57, Doc.promises());
        for (Doc.Piece piece : Doc.left()) {
            Check.yes("a test for " + piece, false);
        }
    }

    public static void main(String[] args) {
        StepEdges.run();
        HangingEdges.run();
        BundleEdges.run();
        TextEdges.run();
        UndoEdges.run();
        DoingEdges.run();
        LoopEdges.run();
        DigestEdges.run();
        noneIsLeft();
        Check.finish("EdgesTest");
    }
}
