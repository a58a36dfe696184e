/**
 * The document sentence by sentence: what it names as an edge is tried on both sides, what is refused is
 * seen to change nothing, and no word of "Terms" or of a promise is left that no test quotes.
 */
public final class EdgesTest {
    public static void main(String[] args) throws Exception {
        Edges edges = new Edges();
        RowEdges.hold(edges);
        TextEdges.hold(edges);
        EveningEdges.hold(edges);
        ActEdges.hold(edges);
        ForetoldEdges.hold(edges);
        GuessEdges.hold(edges);
        AskedEdges.hold(edges);
        edges.close();
    }
}
