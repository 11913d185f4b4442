/** Every sentence of the document that names an edge, with a test of its own. */
public final class EdgesTest {
    public static void main(String[] args) {
        PairsEdges.run();
        RowsEdges.run();
        GamesEdges.run();
        PeoplesEdges.run();
        RoundsEdges.run();
        SheetsEdges.run();
        RefusalsEdges.run();
        Edges.done();
    }
}
