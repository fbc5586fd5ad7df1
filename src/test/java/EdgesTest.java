/**
 * Each sentence of the document that names an edge, with a test of its own: at the edge, next to it on either side,
 * and, where a call is refused, that nothing has changed. The parts are under src/test/edges.
 */
public final class EdgesTest {
    public static void main(String[] args) {
        TextEdges.test();
        DaysEdges.test();
        ForetoldEdges.test();
        SlipsEdges.test();
        RefusedEdges.test();
        int wrong = Edge.end();
        System.out.println(wrong == 0 ? "all edges hold" : wrong + " answers at the edges are not as due");
        if (wrong != 0) {
            System.exit(1);
        }
    }
}
