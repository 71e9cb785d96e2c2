import java.io.IOException;

/**
 * The sentences of the document, one by one, with the edges that they name: each answer is asked for under the words
 * that it is due by, and no sentence of the description or of a promise may be left without any.
 */
public final class SentencesTest {
    /** What nothing can be asked about, or what other sentences say in full. */
    private static final String[] WITHOUT_AN_EDGE = {
        "The class parses frames (worlds with arrows and two atomic propositions) and modal formulas from text",
        "All values are integers.",
    };

    private final Checks checks = new Checks();
    private final Document document;

    private SentencesTest(Document document) {
        this.document = document;
    }

    public static void main(String[] args) throws IOException {
        SentencesTest test = new SentencesTest(Document.read());
        new TextEdges(test.checks, test.document).all();
        new FrameEdges(test.checks, test.document).all();
        new AnswerEdges(test.checks, test.document).all();
        new DescriptionEdges(test.checks, test.document).all();
        new Refusals(test.checks, test.document).all();
        test.everySentence();
        test.checks.finish("SentencesTest");
    }

    private void everySentence() {
        checks.of("each sentence has a test");
        for (String words : WITHOUT_AN_EDGE) {
            checks.due(words, document.quote("Description", words) ? 1 : 0, 1);
        }
        everySentence("Description");
        for (int promise = 1; promise <= 31; promise++) {
            everySentence("Promise " + promise);
        }
    }

    private void everySentence(String section) {
        for (String words : document.notQuoted(section)) {
            checks.due(section + ", \"" + words + "\", tests", 0, 1);
        }
    }
}
