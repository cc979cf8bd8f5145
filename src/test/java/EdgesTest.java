import java.io.IOException;

/** Each sentence of the document that names an edge has a test of its own, and no sentence is passed over. */
public final class EdgesTest {
    private EdgesTest() {
    }

    public static void main(String[] args) throws IOException {
        Checks checks = new Checks();
        Sentences sentences = new Sentences();
        Edge edge = new Edge(checks, sentences);
        HeadEdges.run(edge);
        TreeEdges.run(edge);
        TapeEdges.run(edge);
        FractionEdges.run(edge);
        LinkEdges.run(edge);
        NameEdges.run(edge);
        SheetEdges.run(edge);
        ImageEdges.run(edge);
        edge.end();
        sentences.checkAllClaimed(checks);
        checks.end();
    }
}
