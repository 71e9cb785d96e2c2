import java.math.BigInteger;

/** What the tests of the document's sentences share. */
abstract class Edges {
    static final int UNKNOWN = -101, OUTSIDE = -102, STATE = -103, FULL = -104;
    static final String ALL_ARROWS = "00,01,02,03,10,11,12,13,20,21,22,23,30,31,32,33";
    /** The longest text of a frame, 61 characters. */
    static final String LONGEST_FRAME = "k4:" + ALL_ARROWS + ";p0123q0123";

    final Checks checks;
    private final Document document;
    private String section = "";

    Edges(Checks checks, Document document) {
        this.checks = checks;
        this.document = document;
    }

    /** Says that the sentences to come stand in this section of the document. */
    void section(String name) {
        section = name;
    }

    void promise(int number) {
        section("Promise " + number);
    }

    /** Says of which sentence, word for word, the answers to come are. */
    void says(String words) {
        checks.of(section + ", \"" + words + "\"");
        checks.due("stands in the document", document.quote(section, words) ? 1 : 0, 1);
    }

    /** A new object that has read a frame and a formula (an empty text is not read), and has been asked the calls. */
    FrameBoard with(String frame, String formula, String calls) {
        FrameBoard board = checks.with(frame, formula);
        checks.run(board, calls);
        return board;
    }

    /** A new object with a text on its page. */
    FrameBoard page(String text) {
        FrameBoard board = new FrameBoard();
        checks.write(board, text);
        return board;
    }

    void due(FrameBoard board, String call, long want) {
        checks.due(call, checks.ask(board, call), want);
    }

    /** The first values beyond a range on each side, and the smallest and the largest int. */
    static int[] beyond(int low, int high) {
        return new int[] {low - 1, high + 1, Integer.MIN_VALUE, Integer.MAX_VALUE};
    }

    /** Asks for the same answer for each value beyond a range, put where the call has a star. */
    void beyond(FrameBoard board, String call, int low, int high, int want) {
        for (int value : beyond(low, high)) {
            due(board, call.replace("*", "" + value), want);
        }
    }

    /** The checksum of promise 31, without overflow until the end. */
    static BigInteger wholeChecksum(long... numbers) {
        BigInteger h = BigInteger.valueOf(1481);
        for (long number : numbers) {
            h = h.multiply(BigInteger.valueOf(31)).add(BigInteger.valueOf(number));
        }
        return h;
    }

    static long checksum(long... numbers) {
        return wholeChecksum(numbers).longValue();
    }

    /** The state that follows on x. */
    static long nextState(long x) {
        return BigInteger.valueOf(1103515245).multiply(BigInteger.valueOf(x)).add(BigInteger.valueOf(12345))
            .mod(BigInteger.ONE.shiftLeft(31)).longValue();
    }
}
