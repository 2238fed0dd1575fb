/** What the document names of edges: the last that is taken, the first that is refused, and that this changes nothing. */
public final class EdgesTest {
    public static void main(String[] args) {
        PeopleEdges.all();
        YearsEdges.all();
        WillBeEdges.all();
        TextEdges.all();
        SheetEdges.all();
        RowEdges.all();
        Edge.nothingIsLeftOut();
        Due.end();
    }
}
