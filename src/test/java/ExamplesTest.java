/** The five examples of the document, word for word, each on a new object. */
public final class ExamplesTest {
    private static final String[] EXAMPLES = {
        "letter(107) = 1; letter(50) = 2; letter(58) = 3; letter(48) = 4; letter(49) = 5; letter(59) = 6;"
            + " letter(112) = 7; letter(49) = 8; letter(113) = 9; frame() = 2; letter(77) = 1; letter(112) = 2;"
            + " formula() = 2; world(0, 5) = 1; world(1, 5) = 0; valid() = 0",
        "letter(116) = 1; letter(49) = 2; letter(58) = 3; letter(48) = 4; letter(48) = 5; letter(44) = 6;"
            + " letter(48) = 7; letter(48) = 8; fault(0) = 7; blank() = 8; letter(62) = 1; letter(78) = 2;"
            + " letter(112) = 3; fault(1) = 3; formula() = -103",
        "letter(121) = 1; letter(49) = 2; letter(58) = 3; letter(59) = 4; letter(112) = 5; letter(113) = 6;"
            + " letter(48) = 7; frame() = 1; fail(1, 0) = -103; letter(113) = 1; formula() = 1; fail(1, 0) = 0;"
            + " fail(1, 1) = 0; keeps(4) = 1; close() = 0",
        "frame() = -103; fault(0) = 0; fault(2) = -102; about(5) = -102; about(0) = -103; as(0) = -103;"
            + " world(0, 0) = -101; part(0) = -101; see(0, true) = -103; see(4, true) = -102; sorts(0) = 31;"
            + " sorts(1) = 0; letter(31) = -102; tells(5) = -102; tells(0) = -103; restore() = -103",
        "letter(100) = 1; letter(49) = 2; letter(58) = 3; letter(59) = 4; letter(112) = 5; letter(113) = 6;"
            + " frame() = 1; about(3) = 0; close() = 1; see(2, false) = 1; sorts(0) = 8; sorts(1) = 0; add() = 1;"
            + " shrink() = 2; as(1) = -1; image() = 2",
    };

    public static void main(String[] args) {
        Checks checks = new Checks();
        for (String example : EXAMPLES) {
            checks.fresh(example);
        }
        checks.finish("ExamplesTest");
    }
}
