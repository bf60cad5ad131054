/** Each sentence of the document that names a boundary case, with a test of its own that names it. */
public final class BoundaryTest {
    private BoundaryTest() {
    }

    public static void main(String[] args) throws Exception {
        Sentences s = new Sentences();
        new TextBoundaries(s).all();
        new FryingBoundaries(s).all();
        new WouldBeBoundaries(s).all();
        new RoundsBoundaries(s).all();
        new ToldBoundaries(s).all();
        s.end();
    }
}
