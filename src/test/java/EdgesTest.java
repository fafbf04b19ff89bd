import java.io.IOException;

/** Each sentence of the document that names a boundary case: too small, too large, empty, full, a wrap-around, a refusal. */
public final class EdgesTest {
    private EdgesTest() {
    }

    public static void main(String[] args) throws IOException {
        Edge.readDocument();
        TermsEdges.all();
        LandEdges.all();
        VoterEdges.all();
        RuleEdges.all();
        AskedEdges.all();
        NoonEdges.all();
        PlanEdges.all();
        LotEdges.all();
        RowEdges.all();
        SheetEdges.all();
        ThingEdges.all();
        KeptEdges.all();
        Edge.coverAll();
        Check.end("EdgesTest");
    }
}
