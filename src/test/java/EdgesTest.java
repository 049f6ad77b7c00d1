/** A test of its own for each sentence of the document that names a boundary case. */
public final class EdgesTest {
    public static void main(String[] args) throws Exception {
        TermsEdges.runAll();
        TextFaultEdges.runAll();
        ToldEdges.runAll();
        ActsEdges.runAll();
        AskedEdges.runAll();
        WereEdges.runAll();
        TextsEdges.runAll();
        Edges.compareWithDocument();
        Due.end("EdgesTest");
    }
}
