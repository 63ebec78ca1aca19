/** All promises: each sentence of the document that names a boundary case has a test of its own, told by its words. */
public final class EdgesTest {
    public static void main(String[] args) {
        Edges e = new Edges();
        AnswersEdges.run(e);
        BurlEdges.run(e);
        SawEdges.run(e);
        WorldsEdges.run(e);
        StockEdges.run(e);
        PipesEdges.run(e);
        LawsEdges.run(e);
        SheetsEdges.run(e);
        e.end();
    }
}
