/** Each sentence of the document, from its first line on: a test of its own. */
public final class EdgesTest {
    public static void main(String[] args) {
        Edges e = new Edges();
        StoryEdges.all(e);
        FaceEdges.all(e);
        PlainEdges.all(e);
        SleeperEdges.all(e);
        StreetEdges.all(e);
        MorningEdges.all(e);
        AskedEdges.all(e);
        SeenEdges.all(e);
        PlanEdges.all(e);
        ImageEdges.all(e);
        ActEdges.all(e);
        TapeEdges.all(e);
        AnswerEdges.all(e);
        e.covers("What it is");
        e.covers("The public face");
        e.covers("Terms");
        for (int promise = 1; promise <= 33; promise++) {
            e.covers(String.valueOf(promise));
        }
        e.end();
    }
}
