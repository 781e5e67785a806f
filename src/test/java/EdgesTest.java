import java.io.IOException;

/** A test of its own for each sentence of the document that names a boundary, in the document's order. */
public final class EdgesTest {
    public static void main(String[] args) throws IOException {
        Edge.readDocument();
        TextEdges.all();
        TapeEdges.all();
        PartEdges.all();
        StepEdges.all();
        RunEdges.all();
        RefusedEdges.all();
        Edge.everySentenceIsQuoted();
        House.close("edges");
    }
}
