/** Each sentence of the document that names an edge, with a test of its own; see tests/edges. */
public final class EdgesTest {
    public static void main(String[] args) {
        VoiceEdges.all();
        SheetEdges.all();
        CylinderEdges.all();
        PlayEdges.all();
        RunEdges.all();
        TuningEdges.all();
        SumEdges.all();
        Edge.complete();
        Check.end("EdgesTest");
    }
}
