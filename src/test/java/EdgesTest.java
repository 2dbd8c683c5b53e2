import java.nio.file.Path;

/** Each sentence of the document that names a boundary case, at the boundary and at its neighbours. */
public final class EdgesTest {
    public static void main(String[] args) throws Exception {
        // .ci/run tells the checkout's root; by hand it is where the test is run.
        Path document = Path.of(System.getProperty("root", "."), "../shared/DOC.md");
        boolean good = Edges.run(document, EdgesOfVats.class, EdgesOfTexts.class, EdgesOfProofs.class, EdgesOfMarket.class, EdgesOfTown.class);
        if (!good) {
            System.exit(1);
        }
    }
}
