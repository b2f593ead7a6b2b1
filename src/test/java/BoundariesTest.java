/** A test for every sentence of the document, at the boundary cases that it names. */
public final class BoundariesTest {
    public static void main(String[] args) {
        DescriptionBoundaries.run();
        UndoAndErrorBoundaries.run();
        WordBoundaries.run();
        OutlineBoundaries.run();
        BriefBoundaries.run();
        ReadingBoundaries.run();
        StateBoundaries.run();
        Document.everySentenceIsNamed();
        Checks.finish();
    }
}
