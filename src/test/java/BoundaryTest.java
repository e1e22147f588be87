import java.io.IOException;

/** The boundary cases of the document, sentence by sentence. */
final class BoundaryTest {
    public static void main(String[] args) throws IOException {
        Sentences doc = new Sentences("BoundaryTest");
        new TermsBoundaries(doc).check();
        new OrderBoundaries(doc).check();
        new DesignBoundaries(doc).check();
        new HouseBoundaries(doc).check();
        doc.end();
    }
}
