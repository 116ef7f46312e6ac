/**
 * The edges that the document names, by its own words: each term and each promise, too small, too large,
 * empty, full, round, refused. No word of the document's terms and promises may be without a test, and
 * none of what it says ahead of them.
 */
public final class EdgesTest {
    private EdgesTest() { }

    public static void main(String[] args) {
        AheadEdges.run();
        TermEdges.run();
        LogEdges.run();
        ProofEdges.run();
        ReaderEdges.run();
        WatcherEdges.run();
        HouseEdges.run();
        Document.end();
        Due.end();
    }
}
