/** Each sentence of the document that names a boundary case, with a test of its own; at the end, that all are told. */
public final class EdgesTest {
    public static void main(String[] args) throws Exception {
        LinkEdges.all();
        LawEdges.all();
        ThoughtEdges.all();
        HelpEdges.all();
        ToldEdges.all();
        DeedEdges.all();
        ShelfEdges.all();
        RefusalEdges.all();
        Edge.allIsTold();
        Due.end();
    }
}
