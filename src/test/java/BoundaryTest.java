/** Every sentence of the document that names a boundary, quoted, with answers that would be others if it were broken. */
public final class BoundaryTest {
    public static void main(String[] args) throws java.io.IOException {
        BoundaryText.all();
        BoundaryActs.all();
        BoundaryAnswers.all();
        BoundaryTold.all();
        Sentences.finish();
        Due.finish("BoundaryTest");
    }
}
