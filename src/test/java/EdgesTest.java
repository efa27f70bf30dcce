/** Every sentence of the document that names a boundary case, tried on both sides of the boundary. */
public final class EdgesTest {
    public static void main(String[] args) {
        TextEdges.check();
        PlaceEdges.check();
        StepEdges.check();
        ThrowEdges.check();
        FaceEdges.check();
        Sentence.allAreNamed();
        Desk.end();
    }
}
