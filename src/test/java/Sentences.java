import java.io.IOException;
import java.nio.file.Path;

/** Answers that are due, each by a sentence of the document that is named ahead of them. */
final class Sentences {
    private final Check check = new Check();
    private final Document document;
    private String now = "";
    private int asked;

    Sentences() throws IOException {
        document = new Document(Path.of("../shared/DOC.md"));
    }

    /** The sentence, or the part of one, that the answers up to the next call are due by. */
    void by(String section, String sentence) {
        theLastWasAsked();
        now = section + ", \"" + sentence + "\": ";
        asked = 0;
        check.due(now + "stands in the document", document.name(section, sentence), true);
    }

    void due(String call, long got, long want) {
        asked++;
        check.due(now + call, got, want);
    }

    void due(String call, boolean got, boolean want) {
        due(call, got ? 1 : 0, want ? 1 : 0);
    }

    void row(String call, int[] got, int... want) {
        due(call + ": how many", got.length, want.length);
        for (int i = 0; i < want.length && i < got.length; i++) {
            due(call + " " + i, got[i], want[i]);
        }
    }

    /** A new object with a shelf, a day, a log, an order, as far as there are texts for them. */
    SandGlasses with(String... texts) {
        SandGlasses x = new SandGlasses();
        for (int sort = 0; sort < texts.length; sort++) {
            if (texts[sort] != null) {
                due("text " + texts[sort], Check.tell(x, sort, SandGlasses.NONE, texts[sort]), 0);
            }
        }
        return x;
    }

    private void theLastWasAsked() {
        if (!now.isEmpty()) {
            check.due(now + "has a test", asked > 0, true);
        }
    }

    void finish() {
        theLastWasAsked();
        check.due("sections of the document", document.sections(), 37);
        for (String part : document.unnamed()) {
            check.due("no test names " + part, 1, 0);
        }
        check.finish();
    }

    static int bits(int... at) {
        int bits = 0;
        for (int t : at) {
            bits |= 1 << t;
        }
        return bits;
    }
}
