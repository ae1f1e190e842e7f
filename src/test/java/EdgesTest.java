/** Each sentence of the document that names an edge, promise by promise: at the edge, a step inside it, a step beyond it. */
public final class EdgesTest {
    public static void main(String[] args) {
        TapeEdges.run();
        AlmanacEdges.run();
        LawEdges.run();
        YearEdges.run();
        HandEdges.run();
        NightEdges.run();
        OutlookEdges.run();
        SearchEdges.run();
        CluesEdges.run();
        MarkEdges.run();
        NumberedEdges.run();
        Check.allPromises();
        Check.end();
    }
}
