import java.io.IOException;

/** Each sentence of the document that names an edge, by itself: what is just inside, what is just outside, what is refused. */
public final class EdgeTest {
    private EdgeTest() {
    }

    public static void main(String[] args) throws IOException {
        Edges edges = new Edges();
        new TermEdges(edges).look();
        new PageEdges(edges).look();
        new DoneEdges(edges).look();
        new WouldBeEdges(edges).look();
        new SeenEdges(edges).look();
        new AllEdges(edges).look();
        edges.end("EdgeTest");
    }
}
