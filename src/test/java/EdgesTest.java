import java.io.IOException;

/** The boundary cases of the document, promise by promise: each sentence that names one has a test of its own. */
public final class EdgesTest {
    public static void main(String[] args) throws IOException {
        Edges edges = new Edges();
        TextEdges.all(edges);
        ActEdges.all(edges);
        AheadEdges.all(edges);
        LendEdges.all(edges);
        SeenEdges.all(edges);
        edges.end();
    }
}
