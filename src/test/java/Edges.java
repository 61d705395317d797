/** What the tests of sentences share: the ledger that they strike out, and numbers that can never be. */
abstract class Edges {
    static final int MIN = Integer.MIN_VALUE;
    static final int MAX = Integer.MAX_VALUE;

    final Ledger doc;

    Edges(Ledger doc) {
        this.doc = doc;
    }

    final void due(long want, long got) {
        doc.due(want, got);
    }

    abstract void all();
}
