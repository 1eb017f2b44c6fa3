import java.io.IOException;

/**
 * All promises and terms: for each sentence of the document that names a bound, a fault, a refusal, or what stays and what
 * is emptied then, a test that is named by its words.
 */
public final class BoundsTest {
    private BoundsTest() {
    }

    public static void main(String[] args) throws IOException {
        Sentence.open("../shared/DOC.md");
        ValleyBounds.run();
        CensusBounds.run();
        LawBounds.run();
        DayBounds.run();
        RowBounds.run();
        PromiseBounds.run();
        PromiseRowBounds.run();
        Sentence.end();
        Due.end();
    }
}
