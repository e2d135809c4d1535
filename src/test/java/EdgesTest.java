/**
 * Each sentence of the document that names an edge has tests of its own (too small, too large, empty,
 * full, wrapped around, refused, ..); and no words of the promises and the terms are without a test.
 */
public final class EdgesTest {
    public static void main(String[] args) {
        Edges[] parts = {new ToldEdges(), new RoundsEdges(), new MovesEdges(), new RegretsEdges(), new RowsEdges()};
        for (Edges part : parts) part.all();
        for (String wrong : Edges.WRONG) System.out.println(wrong);
        boolean fine = Edges.WRONG.isEmpty();
        for (String words : Edges.DOCUMENT.notQuoted()) {
            System.out.println("no test names these words of " + words);
            fine = false;
        }
        System.out.println(Edges.tests + " tests of edges, " + Edges.WRONG.size() + " answers otherwise than due");
        if (!fine) System.exit(1);
    }
}
