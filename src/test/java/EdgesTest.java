import java.io.IOException;

/** Every sentence of the document that names a boundary case has a test of its own, and holds. */
final class EdgesTest {
    public static void main(String[] args) throws IOException {
        TermEdges.all();
        SpellingEdges.all();
        RowEdges.all();
        TextEdges.all();
        WordEdges.all();
        StandingEdges.all();
        InnerEdges.all();
        PairEdges.all();
        SeveralEdges.all();
        ChanceEdges.all();
        ToldEdges.all();
        Sentence.checkThatAllAreTested();
        Check.end();
    }
}
