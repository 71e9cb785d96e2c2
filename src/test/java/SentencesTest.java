import java.io.IOException;

/**
 * The sentences of the document, one by one, with the edges that they name: each answer is asked for under the words
 * that it is due by, and no words of the document may be left without any.
 */
public final class SentencesTest {
    /** What nothing can be asked about, or what other sentences say in full; FaceTest asks for the signatures. */
    private static final String[][] WITHOUT_AN_EDGE = {
        {"What it is", "Modal logic on small Kripke frames."},
        {"What it is", "; what later calls answer is free."},
        {"Description", "The class parses frames (worlds with arrows and two atomic propositions) and modal formulas from"
            + " text, evaluates formulas, checks validity, searches for the least countermodel of a class of frames, finds"
            + " out which property of frames a formula defines, computes bisimilar worlds, closes and minimizes frames,"
            + " infers the class of an unknown frame from observations, and evaluates formulas under random valuations."},
        {"Description", "All values are integers."},
        {"Description", "The constants:"},
        {"Description", "The constructor and the methods follow, a promise each: the signature, then what it does."},
        {"Not promised", "How the state is held inside the object is free, as are the speed of each call, the text of"
            + " toString and the behaviour of equals and hashCode. Use of one object from several threads at once is not"
            + " promised to be safe. Nothing is promised beyond the answers and state changes described above, and nothing"
            + " about an object after its 512th call."},
    };

    private final Checks checks = new Checks();
    private final Document document;

    private SentencesTest(Document document) {
        this.document = document;
    }

    public static void main(String[] args) throws IOException {
        SentencesTest test = new SentencesTest(Document.ofTheClass());
        new TextEdges(test.checks, test.document).all();
        new FrameEdges(test.checks, test.document).all();
        new AnswerEdges(test.checks, test.document).all();
        new DescriptionEdges(test.checks, test.document).all();
        new SearchEdges(test.checks, test.document).all();
        new Refusals(test.checks, test.document).all();
        test.everySentence();
        test.checks.finish("SentencesTest");
    }

    private void everySentence() {
        checks.of("each sentence has a test");
        for (String[] words : WITHOUT_AN_EDGE) {
            checks.due(words[1], document.quote(words[0], words[1]) ? 1 : 0, 1);
        }
        for (String section : document.sections()) {
            everySentence(section);
        }
        checks.due("sections", document.sections().size(), 5 + 31);
    }

    private void everySentence(String section) {
        for (String words : document.notQuoted(section)) {
            checks.due(section + ", \"" + words + "\", tests", 0, 1);
        }
    }
}
