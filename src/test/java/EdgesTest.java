import java.nio.file.Path;

/** Each sentence of the document with a test of its own, at the edges that it names. */
public final class EdgesTest {
    public static void main(String[] args) throws Exception {
        Ledger doc = new Ledger(Path.of("../shared/DOC.md"));
        new EdgesOfTerms(doc).all();
        new EdgesOfBoard(doc).all();
        new EdgesOfText(doc).all();
        new EdgesOfRuns(doc).all();
        new EdgesOfMending(doc).all();
        new EdgesOfNames(doc).all();
        new EdgesOfImages(doc).all();
        doc.end();
    }
}
