import java.io.IOException;

/**
 * The document sentence by sentence, at the edges that each names: the last value that is in, the first that is out.
 * Every sentence of the terms and promises must be named by a test, word for word.
 */
public final class BoundariesTest {
    private BoundariesTest() {
    }

    public static void main(String[] args) throws IOException {
        Sentences due = new Sentences();
        new TapeBoundaries(due).run();
        new TextBoundaries(due).run();
        new DayBoundaries(due).run();
        new DrawnBoundaries(due).run();
        new TellBoundaries(due).run();
        new GameBoundaries(due).run();
        new ClothBoundaries(due).run();
        new TimesBoundaries(due).run();
        due.finish();
    }
}
