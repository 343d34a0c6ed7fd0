/** Each sentence of the document that names a boundary case has a test of its own here. */
public final class BoundaryTest {
    private BoundaryTest() {
    }

    public static void main(String[] args) {
        TextEdges.run();
        NetworkEdges.run();
        TourEdges.run();
        SearchEdges.run();
        ChangeEdges.run();
        Sentence.eachBoundaryIsTested();
        Due.end();
    }
}
