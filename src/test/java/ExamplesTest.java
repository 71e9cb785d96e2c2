import java.io.IOException;

/** The five examples of the document, as they stand there, each on a new object. */
public final class ExamplesTest {
    /** How many calls the examples have, so that none is left out by a misreading of the document. */
    private static final int[] CALLS = {16, 15, 15, 16, 16};

    public static void main(String[] args) throws IOException {
        Document document = Document.ofTheClass();
        Checks checks = new Checks();
        for (int i = 0; i < CALLS.length; i++) {
            String example = document.example(i + 1);
            checks.of("example " + (i + 1));
            checks.due("calls", example.split(";").length, CALLS[i]);
            checks.fresh(example);
        }
        checks.due("calls of an example behind the last one", document.example(CALLS.length + 1).length(), 0);
        checks.finish("ExamplesTest");
    }
}
