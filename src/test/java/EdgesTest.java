import java.io.IOException;

/** Each sentence of the document that names a boundary case, by a test of its own. */
public final class EdgesTest {
    public static void main(String[] args) throws IOException {
        Edges e = new Edges();
        TermEdges.tests(e);
        MoorEdges.tests(e);
        StepEdges.tests(e);
        ChanceEdges.tests(e);
        FeeEdges.tests(e);
        TrackEdges.tests(e);
        DawnEdges.tests(e);
        KeptEdges.tests(e);
        e.finish();
    }
}
