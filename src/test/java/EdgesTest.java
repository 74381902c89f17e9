import java.io.IOException;

/** Each sentence of the document that names an edge, by its own words; none of the document's words is left out. */
public final class EdgesTest {
    public static void main(String[] args) throws IOException {
        Doc.read("../shared/DOC.md");
        Due.is("promises of the document", Doc.promises(), 42);
        EdgesOfTerms.go();
        EdgesOfMind.go();
        EdgesOfPromises.go();
        EdgesOfRefusals.go();
        for (String left : Doc.unnamed()) {
            Due.is("no test names: " + left, 1, 0);
        }
        Due.end("EdgesTest");
    }
}
