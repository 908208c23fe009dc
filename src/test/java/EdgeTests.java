/** Each sentence of the document that names a boundary case, at that boundary; each word of it is quoted. */
public final class EdgeTests {
    public static void main(String[] args) {
        PeopleEdges.run();
        TextEdges.run();
        MatchEdges.run();
        CountEdges.run();
        ShelfEdges.run();
        RefusalEdges.run();
        CallEdges.run();
        Doc.end();
        Due.end("EdgeTests");
    }
}
