import java.util.List;

/** For each sentence of the document that names an edge a test of its own. */
public final class EdgesTest extends Edges {
    private static final List<String> WITHOUT_EDGES = List.of();

    public static void main(String[] args) {
        TextEdges.run();
        PlayEdges.run();
        MindEdges.run();
        end("EdgesTest");
    }
}
