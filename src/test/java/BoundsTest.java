import java.io.IOException;

/** All that the document says: for each of its sentences a test that is named by its words. */
public final class BoundsTest {
    private BoundsTest() {
    }

    public static void main(String[] args) throws IOException {
        Sentence.open("../shared/DOC.md");
        StoryBounds.run();
        FaceBounds.run();
        ValleyBounds.run();
        CensusBounds.run();
        LawBounds.run();
        DayBounds.run();
        RowBounds.run();
        PromiseBounds.run();
        PromiseRowBounds.run();
        Sentence.end();
        Due.end();
    }
}
