/** Each sentence of the document that names a boundary case: a test of its own (issue 6). */
public final class EdgesTest {
    public static void main(String[] args) {
        Edges e = new Edges();
        SleeperEdges.all(e);
        StreetEdges.all(e);
        MorningEdges.all(e);
        AskedEdges.all(e);
        SeenEdges.all(e);
        PlanEdges.all(e);
        ImageEdges.all(e);
        ActEdges.all(e);
        TapeEdges.all(e);
        AnswerEdges.all(e);
        e.covers("Terms");
        for (int promise = 1; promise <= 33; promise++) {
            e.covers(String.valueOf(promise));
        }
        e.end();
    }
}
