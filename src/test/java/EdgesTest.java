import java.nio.file.Path;

/** Each sentence of the document with a test of its own, at the edges that it names. */
public final class EdgesTest {
    public static void main(String[] args) throws Exception {
        Ledger doc = new Ledger(Path.of("../shared/DOC.md"));
        Edges[] parts = {new EdgesOfTerms(doc), new EdgesOfBoard(doc), new EdgesOfText(doc), new EdgesOfRuns(doc),
            new EdgesOfMending(doc), new EdgesOfNames(doc), new EdgesOfImages(doc)};
        for (Edges part : parts) {
            part.all();
        }
        doc.end();
    }
}
