import java.nio.file.Files;
import java.nio.file.Path;

/** Every sentence of the document that names an edge, by a test of its own; the names are the document's words. */
public final class EdgesTest {
    public static void main(String[] args) throws Exception {
        Edges edges = new Edges();
        TermsMakingEdges.add(edges);
        TermsTextEdges.add(edges);
        TermsLookingEdges.add(edges);
        TermsTruthEdges.add(edges);
        TermsRoundEdges.add(edges);
        PromiseMakingEdges.add(edges);
        PromiseTextEdges.add(edges);
        PromiseLookingEdges.add(edges);
        PromiseRoundEdges.add(edges);
        edges.run();
        edges.dueIn(Files.readString(Path.of("../shared/DOC.md")));
        TestTools.close();
    }
}
