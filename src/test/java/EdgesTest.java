import java.nio.file.Path;

/** The boundary cases of all promises, each under the sentence of the document that names it. */
public final class EdgesTest {
    public static void main(String[] args) throws Exception {
        Edges.read(Path.of(args.length > 1 ? args[1] : "../shared/DOC.md"));
        EdgesOfPegs.all();
        EdgesOfWebs.all();
        EdgesOfWhich.all();
        EdgesOfSeen.all();
        EdgesOfSheets.all();
        EdgesOfRefusals.all();
        Edges.allNamed();
        Check.end("EdgesTest");
    }
}
