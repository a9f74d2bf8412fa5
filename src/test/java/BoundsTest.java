/**
 * The document read sentence by sentence: whatever a sentence names as too small, too large, empty,
 * full, wrapping around or refused is looked at on both sides, and no sentence is left out.
 */
public final class BoundsTest {
    public static void main(String[] args) throws Exception {
        Check check = new Check("BoundsTest");
        Document document = new Document();
        Bounds[] parts = {
            new TermsBounds(check, document),
            new TextBounds(check, document),
            new CommitBounds(check, document),
            new LeapBounds(check, document),
            new ChangeBounds(check, document),
            new RefusedBounds(check, document),
            new CallBounds(check, document)};
        for (Bounds part : parts) {
            part.run();
        }
        check.isTrue("a test for each sentence, but none for: " + document.left(), document.left().isEmpty());
        check.end();
    }
}
