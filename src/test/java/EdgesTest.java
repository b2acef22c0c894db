import java.io.IOException;

/** Every sentence of the document that names an edge: the last that is within, the first that is beyond. */
final class EdgesTest {
    private EdgesTest() {
    }

    public static void main(String[] args) throws IOException {
        Edges edges = new Edges();
        TapeEdges.hold(edges);
        ShopEdges.hold(edges);
        LawEdges.hold(edges);
        RunEdges.hold(edges);
        HandEdges.hold(edges);
        BeatEdges.hold(edges);
        DayEdges.hold(edges);
        GapEdges.hold(edges);
        SeenEdges.hold(edges);
        LuckEdges.hold(edges);
        MarkEdges.hold(edges);
        edges.end();
    }
}
