import java.util.ArrayList;
import java.util.List;

/**
 * Each call that can be refused: each of its errors by itself, which one comes first where several apply, and that the
 * refused call changes nothing. For the last, two objects are made alike, one of them is asked the call that is refused,
 * and then both are asked all that can be asked without a change, before and after restore().
 */
final class Refusals extends Edges {
    /** An object before the call: what it has read, what it has been asked, and what stands on its page. */
    private record Start(String frame, String formula, String calls, String page) {
        Start withPage(String text) {
            return new Start(frame, formula, calls, text);
        }
    }

    private static final List<String> QUESTIONS = questions();
    private static final String SIX = "see(2, true) = 1; see(2, true) = 2; see(0, false) = 3; see(2, true) = 4;"
        + " see(2, true) = 5; see(2, true) = 6";

    private static final Start NEW = new Start("", "", "count(7) = 0", "");
    private static final Start TYPED = new Start("", "", "count(7) = 0", "k2:0");
    private static final Start FORMULA = new Start("", ">Np|qMp", "tells(1) = 0", "Np");
    /** A frame that differs from its image in all that the image holds. */
    private static final Start FRAME = new Start("y3:01,10,22;p02q1", "", "see(2, true) = 1; image() = 3;"
        + " see(1, false) = 2; draw(0, 0, true) = 4; mark(1, 1) = 2; be(1) = 3; take(2) = 2", "k1:;pq1");
    private static final Start BOTH = new Start("k3:01,12,22;p2q1", "|Np~Mq", "see(3, true) = 1; image() = 3;"
        + " see(0, true) = 2; draw(0, 0, true) = 4; mark(0, 3) = 0; be(4) = 0; fail(2, 0) = 5; tells(0) = 0;"
        + " tells(4) = 0", "d2:01,1");
    private static final Start FRESHLY_READ = new Start("t2:00,11;p0q1", "Mq", "see(1, true) = 1", "p");
    private static final Start ONE_WORLD = new Start("d1:00;p0q", "&pNp", "image() = 1; mark(0, 2) = 1; see(0, false) = 1",
        "q");
    private static final Start FOUR_WORLDS = new Start("s4:" + ALL_ARROWS + ";p0123q0123", "&&&&&&&Mpppppppq",
        "draw(3, 0, false) = 15; image() = 4; draw(0, 3, false) = 14; mark(2, 1) = 3; see(1, true) = 1", "y4:33;");
    private static final Start SEEN_SIX = new Start("k2:01;p0q", "Np", "see(3, false) = 1; image() = 2; forget() = 1; "
        + SIX, "k");
    private static final Start NO_KIND = new Start("k2:01;p0q", "Np", "see(3, false) = 1; see(3, true) = 2; sorts(0) = 0",
        "k");
    private static final Start FULL_PAGE = new Start("k2:01;p0q", "Np", "image() = 2; add() = 2", "x".repeat(66));
    private static final Start FAILED = new Start("k2:01;p0q", "Np", "image() = 2; add() = 2" + "; fail(1, 0) = 1".repeat(6)
        + "; fail(1, 1) = 0".repeat(6), "q");
    private static final Start FAILED_WITHOUT_END = new Start("t2:01;p0q", ">pp", "be(2) = 1" + "; fail(2, 2) = -1".repeat(12),
        "");
    private static final Start TOLD = new Start("k2:01;p0q", ">Npp", "image() = 2; add() = 2" + "; tells(0) = 1".repeat(6)
        + "; tells(1) = 0".repeat(6), "q");
    private static final Start[] WITHOUT_FRAME = {NEW, TYPED, FORMULA};
    private static final Start[] WITHOUT_FORMULA = {NEW, TYPED, FRAME};
    private static final Start[] WITH_FRAME = {FRAME, BOTH, FRESHLY_READ, ONE_WORLD, FOUR_WORLDS};

    private static final String NO_FRAME = "STATE if there is no frame";
    private static final String NO_WORLD = "UNKNOWN if there is no such world";
    private static final String TWELVE_FAILS = "STATE if there is no frame or no formula, or if this method has been called"
        + " 12 times without an error already (also with the result NONE)";
    private static final String TWELVE_TELLS = "STATE if there is no formula, or if this method has been called 12 times"
        + " without an error already";

    Refusals(Checks checks, Document document) {
        super(checks, document);
    }

    void all() {
        letterAndFault();
        frame();
        frameLeavesAll();
        formula();
        formulaLeavesAll();
        aboutAndAs();
        worldAndArrow();
        partAndSign();
        drawAndMark();
        addAndTake();
        beCloseShrinkValid();
        fail();
        tells();
        keepsAndSee();
        sortsAndCount();
        drawn();
        imageAndRestore();
        restoreBehindWhat();
    }

    private static List<String> questions() {
        List<String> calls = new ArrayList<>(List.of("digest()", "valid()", "fault(0)", "fault(1)", "sorts(0)", "sorts(1)",
            "drawn(7, 11, 0)", "drawn(7, 11, 1)", "drawn(7, 11, 2)"));
        addEach(calls, "count(*)", 11);
        addEach(calls, "about(*)", 5);
        addEach(calls, "as(*)", 5);
        addEach(calls, "keeps(*)", 5);
        addEach(calls, "part(*)", 16);
        addEach(calls, "sign(*)", 16);
        for (int world = 0; world < 4; world++) {
            addEach(calls, "world(" + world + ", *)", 6);
            addEach(calls, "arrow(" + world + ", *)", 4);
        }
        return calls;
    }

    private static void addEach(List<String> calls, String call, int bound) {
        for (int value = 0; value < bound; value++) {
            calls.add(call.replace("*", "" + value));
        }
    }

    private FrameBoard made(Start start) {
        FrameBoard board = with(start.frame, start.formula, start.calls);
        checks.write(board, start.page);
        return board;
    }

    /** The error is due by the words of the promise, that nothing changes by those of the description. */
    private void refused(int promise, String words, Start start, String call, int error) {
        promise(promise);
        says(words);
        FrameBoard board = made(start);
        FrameBoard twin = made(start);
        long before = checks.ask(board, "digest()");
        due(board, call, error);
        section("Description");
        says("A call that returns an error changes nothing.");
        checks.due("digest() behind the refused " + call, checks.ask(board, "digest()"), before);
        sameAnswers(board, twin, " behind the refused " + call);
        due(board, call, error);
        checks.due("restore() behind the refused " + call, checks.ask(board, "restore()"), checks.ask(twin, "restore()"));
        sameAnswers(board, twin, " behind restore() behind the refused " + call);
    }

    private void sameAnswers(FrameBoard board, FrameBoard twin, String when) {
        for (String question : QUESTIONS) {
            checks.due(question + when, checks.ask(board, question), checks.ask(twin, question));
        }
    }

    private void refused(int promise, String words, Start[] starts, String call, int error) {
        for (Start start : starts) {
            refused(promise, words, start, call, error);
        }
    }

    /** For each value beyond a range, put where the call has a star. */
    private void refusedBeyond(int promise, String words, Start start, String call, int low, int high, int error) {
        for (int value : beyond(low, high)) {
            refused(promise, words, start, call.replace("*", "" + value), error);
        }
    }

    /** Where another error applies, too, that the method names later. */
    private void first(Start start, String call, int error) {
        section("Description");
        says("If several errors apply to one call, the one that the method names first is returned.");
        due(made(start), call, error);
    }

    private void firstBeyond(Start start, String call, int low, int high, int error) {
        for (int value : beyond(low, high)) {
            first(start, call.replace("*", "" + value), error);
        }
    }

    private void letterAndFault() {
        String outside = "OUTSIDE if the code is out of range";
        refusedBeyond(2, outside, NEW, "letter(*)", 32, 126, OUTSIDE);
        refusedBeyond(2, outside, BOTH, "letter(*)", 32, 126, OUTSIDE);
        for (int code : new int[] {32, 112, 126}) {
            refused(2, "FULL if the page has 66 characters already", FULL_PAGE, "letter(" + code + ")", FULL);
        }
        refused(2, "FULL if the page has 66 characters already", NEW.withPage("p".repeat(66)), "letter(112)", FULL);
        firstBeyond(FULL_PAGE, "letter(*)", 32, 126, OUTSIDE);
        refusedBeyond(4, "OUTSIDE if what is not 0 or 1", NEW, "fault(*)", 0, 1, OUTSIDE);
        refusedBeyond(4, "OUTSIDE if what is not 0 or 1", BOTH, "fault(*)", 0, 1, OUTSIDE);
        refusedBeyond(4, "OUTSIDE if what is not 0 or 1", FULL_PAGE, "fault(*)", 0, 1, OUTSIDE);
    }

    private void frame() {
        String[] wrong = {"x", "K1:;pq", "k5:;pq", "k0:;pq", "k1;pq", "k1:,;pq", "k2:02;pq", "k2:01,01;pq", "k1:;p1q",
            "k2:;p10q", "k1:;pq ", "k1:;pqq", " k1:;pq", "k1:;pqk1:;pq", "k2:01,;pq", "Np", LONGEST_FRAME + "0",
            "y".repeat(66), LONGEST_FRAME + "xxxxx"};
        String[] notComplete = {"", "k", "k3", "k3:", "k3:0", "k3:01", "k3:01,", "k3:01,1", "k3:;", "k3:;p", "k3:;p012",
            "d4:" + ALL_ARROWS, LONGEST_FRAME.substring(0, 56)};
        for (Start start : new Start[] {NEW, FORMULA, FRAME, BOTH, FRESHLY_READ, FOUR_WORLDS, SEEN_SIX}) {
            for (String text : wrong) {
                refusedText(5, start.withPage(text), "frame()");
            }
            for (String text : notComplete) {
                refusedText(5, start.withPage(text), "frame()");
            }
        }
    }

    private void refusedText(int promise, Start start, String call) {
        String words = promise == 5 ? "STATE if the page does not contain a correct and complete text of a frame (nothing"
            + " changes then)" : "STATE if the page does not contain a correct and complete formula (nothing changes then)";
        refused(promise, words, start, call, STATE);
    }

    /** The page, the frame, the formula, the observations and the image, each asked for by name. */
    private void frameLeavesAll() {
        promise(5);
        says("STATE if the page does not contain a correct and complete text of a frame (nothing changes then)");
        for (String text : new String[] {"k2:01,01;pq", "k2:01,1"}) {
            FrameBoard board = with("y3:01;p2q01", ">Mpq", "see(1, true) = 1; image() = 3; see(0, true) = 2; be(4) = 3;"
                + " draw(2, 2, true) = 2; mark(0, 3) = 2");
            checks.write(board, text);
            checks.run(board, "frame() = -103; count(6) = 7; count(7) = 1; count(8) = 1".replace("= 7;", "= "
                + text.length() + ";"));
            due(board, "fault(0)", 7);
            checks.run(board, "about(0) = 4; about(1) = 3; about(2) = 2; arrow(0, 1) = 1; arrow(2, 2) = 1; world(0, 2) = 3;"
                + " world(1, 2) = 2; world(2, 2) = 1; sign(0) = 62; sign(3) = 113; sign(4) = -101; part(0) = 3; count(5) = 2;"
                + " sorts(0) = 9");
            checks.run(board, "restore() = 3; about(0) = 3; about(2) = 1; world(0, 2) = 2; count(5) = 1; sorts(0) = 25;"
                + " blank() = " + text.length());
        }
    }

    private void formula() {
        String[] wrong = {"x", "P", "pp", "p ", " p", "Np~", "&pqq", "p&q", "(p)", "k1:;pq", "~".repeat(16) + "p",
            "&".repeat(8) + "p".repeat(9), "~".repeat(15) + "pp", "p".repeat(66), ">pq>pq"};
        String[] notComplete = {"", "~", "N", "M", "&", "&p", "|", "|q", ">", ">p", ">&pq", "~".repeat(15), "&".repeat(7),
            "&&&&&&&Mppppppp"};
        for (Start start : new Start[] {NEW, FORMULA, FRAME, BOTH, FRESHLY_READ, FOUR_WORLDS, SEEN_SIX}) {
            for (String text : wrong) {
                refusedText(6, start.withPage(text), "formula()");
            }
            for (String text : notComplete) {
                refusedText(6, start.withPage(text), "formula()");
            }
        }
    }

    private void formulaLeavesAll() {
        promise(6);
        says("STATE if the page does not contain a correct and complete formula (nothing changes then)");
        for (String text : new String[] {"&pqp", "&pN"}) {
            FrameBoard board = with("y3:01;p2q01", ">Mpq", "see(1, true) = 1; image() = 3; see(0, true) = 2; be(4) = 3;"
                + " draw(2, 2, true) = 2; mark(0, 3) = 2");
            checks.write(board, text);
            checks.run(board, "formula() = -103; count(6) = " + text.length() + "; count(7) = 1; count(8) = 1; fault(1) = 3;"
                + " sign(0) = 62; sign(1) = 77; sign(2) = 112; sign(3) = 113; sign(4) = -101; part(0) = 3; part(3) = 3");
            checks.run(board, "about(0) = 4; about(1) = 3; about(2) = 2; arrow(0, 1) = 1; arrow(2, 2) = 1; world(0, 2) = 3;"
                + " world(1, 2) = 2; world(2, 2) = 1; count(5) = 2; sorts(0) = 9");
            checks.run(board, "restore() = 3; about(0) = 3; about(2) = 1; world(0, 2) = 2; count(5) = 1; sorts(0) = 25;"
                + " blank() = " + text.length());
        }
    }

    private void aboutAndAs() {
        for (Start start : WITH_FRAME) {
            refusedBeyond(7, "OUTSIDE if what is not 0 to 4", start, "about(*)", 0, 4, OUTSIDE);
            refusedBeyond(8, "OUTSIDE if kind is out of range", start, "as(*)", 0, 4, OUTSIDE);
        }
        for (int argument = 0; argument < 5; argument++) {
            refused(7, NO_FRAME, WITHOUT_FRAME, "about(" + argument + ")", STATE);
            refused(8, NO_FRAME, WITHOUT_FRAME, "as(" + argument + ")", STATE);
        }
        for (Start start : WITHOUT_FRAME) {
            firstBeyond(start, "about(*)", 0, 4, OUTSIDE);
            firstBeyond(start, "as(*)", 0, 4, OUTSIDE);
        }
    }

    private static int worldsOf(Start start) {
        return start == FRAME ? 2 : start.frame.charAt(1) - '0';
    }

    private void worldAndArrow() {
        for (Start start : WITH_FRAME) {
            int last = worldsOf(start) - 1;
            refusedBeyond(9, NO_WORLD, start, "world(*, 3)", 0, last, UNKNOWN);
            refusedBeyond(9, "OUTSIDE if what is not 0 to 5", start, "world(" + last + ", *)", 0, 5, OUTSIDE);
            firstBeyond(start, "world(*, 6)", 0, last, UNKNOWN);
            firstBeyond(start, "world(*, -1)", 0, last, UNKNOWN);
            refusedBeyond(10, NO_WORLD, start, "arrow(*, 0)", 0, last, UNKNOWN);
            refusedBeyond(10, NO_WORLD, start, "arrow(" + last + ", *)", 0, last, UNKNOWN);
            refusedBeyond(10, NO_WORLD, start, "arrow(*, *)", 0, last, UNKNOWN);
        }
        for (int what = 0; what < 6; what++) {
            refused(9, NO_WORLD, WITHOUT_FRAME, "world(0, " + what + ")", UNKNOWN);
        }
        refused(10, NO_WORLD, WITHOUT_FRAME, "arrow(0, 0)", UNKNOWN);
        firstBeyond(NEW, "world(0, *)", 0, 5, UNKNOWN);
    }

    private void partAndSign() {
        String noPart = "UNKNOWN if there is no such part (also if there is no formula)";
        String noSign = "UNKNOWN if there is no such sign (also if there is no formula)";
        for (Start start : new Start[] {BOTH, FRESHLY_READ, ONE_WORLD, FOUR_WORLDS, FORMULA}) {
            int last = start.formula.length() - 1;
            refusedBeyond(11, noPart, start, "part(*)", 0, last, UNKNOWN);
            refusedBeyond(12, noSign, start, "sign(*)", 0, last, UNKNOWN);
        }
        for (int part : new int[] {0, 1, 15, 16, -1, Integer.MAX_VALUE, Integer.MIN_VALUE}) {
            refused(11, noPart, WITHOUT_FORMULA, "part(" + part + ")", UNKNOWN);
            refused(12, noSign, WITHOUT_FORMULA, "sign(" + part + ")", UNKNOWN);
        }
        for (int part = 0; part < FORMULA.formula.length(); part++) {
            refused(11, NO_FRAME, FORMULA, "part(" + part + ")", STATE);
        }
        firstBeyond(FORMULA, "part(*)", 0, FORMULA.formula.length() - 1, UNKNOWN);
        first(NEW, "part(0)", UNKNOWN);
    }

    private void drawAndMark() {
        for (Start start : WITH_FRAME) {
            int last = worldsOf(start) - 1;
            for (String there : new String[] {"true", "false"}) {
                refusedBeyond(13, NO_WORLD, start, "draw(*, 0, " + there + ")", 0, last, UNKNOWN);
                refusedBeyond(13, NO_WORLD, start, "draw(" + last + ", *, " + there + ")", 0, last, UNKNOWN);
            }
            refusedBeyond(14, NO_WORLD, start, "mark(*, 3)", 0, last, UNKNOWN);
            refusedBeyond(14, "OUTSIDE if marks is not 0 to 3", start, "mark(" + last + ", *)", 0, 3, OUTSIDE);
            firstBeyond(start, "mark(*, 4)", 0, last, UNKNOWN);
            firstBeyond(start, "mark(*, -1)", 0, last, UNKNOWN);
            firstBeyond(start, "draw(*, *, false)", 0, last, UNKNOWN);
        }
        refused(13, NO_WORLD, WITHOUT_FRAME, "draw(0, 0, true)", UNKNOWN);
        refused(14, NO_WORLD, WITHOUT_FRAME, "mark(0, 0)", UNKNOWN);
        firstBeyond(NEW, "mark(0, *)", 0, 3, UNKNOWN);
        first(NEW, "draw(0, 0, false)", UNKNOWN);
        String there = "STATE if the arrow is there already, or is not there already";
        refused(13, there, FRAME, "draw(0, 0, true)", STATE);
        refused(13, there, FRAME, "draw(0, 1, true)", STATE);
        refused(13, there, FRAME, "draw(1, 1, false)", STATE);
        refused(13, there, BOTH, "draw(2, 2, true)", STATE);
        refused(13, there, BOTH, "draw(1, 0, false)", STATE);
        refused(13, there, FOUR_WORLDS, "draw(3, 3, true)", STATE);
        refused(13, there, FOUR_WORLDS, "draw(3, 0, false)", STATE);
        refused(13, there, FOUR_WORLDS, "draw(0, 3, false)", STATE);
    }

    private void addAndTake() {
        refused(15, NO_FRAME, WITHOUT_FRAME, "add()", STATE);
        refused(15, "FULL if there are 4 worlds already", FOUR_WORLDS, "add()", FULL);
        refused(15, "FULL if there are 4 worlds already", new Start("k1:;pq", "p", "image() = 1; add() = 1; add() = 2;"
            + " add() = 3", "p"), "add()", FULL);
        for (Start start : WITH_FRAME) {
            refusedBeyond(16, NO_WORLD, start, "take(*)", 0, worldsOf(start) - 1, UNKNOWN);
        }
        refused(16, NO_WORLD, WITHOUT_FRAME, "take(0)", UNKNOWN);
        refused(16, "STATE if it is the only one", ONE_WORLD, "take(0)", STATE);
        refused(16, "STATE if it is the only one", new Start("k4:33;p3q", "p", "image() = 4; take(0) = 3; take(0) = 2;"
            + " take(0) = 1", "p"), "take(0)", STATE);
        firstBeyond(ONE_WORLD, "take(*)", 0, 0, UNKNOWN);
    }

    private void beCloseShrinkValid() {
        for (Start start : WITH_FRAME) {
            refusedBeyond(17, "OUTSIDE if kind is out of range", start, "be(*)", 0, 4, OUTSIDE);
        }
        for (Start start : WITHOUT_FRAME) {
            refused(17, NO_FRAME, start, "be(0)", STATE);
            refused(17, NO_FRAME, start, "be(4)", STATE);
            firstBeyond(start, "be(*)", 0, 4, OUTSIDE);
            refused(18, NO_FRAME, start, "close()", STATE);
            refused(19, NO_FRAME, start, "shrink()", STATE);
            refused(20, "STATE if there is no frame or no formula", start, "valid()", STATE);
        }
        refused(20, "STATE if there is no frame or no formula", WITHOUT_FORMULA, "valid()", STATE);
    }

    private void fail() {
        String outside = "OUTSIDE if an argument is out of range";
        for (Start start : new Start[] {BOTH, FRESHLY_READ, FOUR_WORLDS}) {
            refusedBeyond(21, outside, start, "fail(*, 0)", 1, 3, OUTSIDE);
            refusedBeyond(21, outside, start, "fail(3, *)", 0, 2, OUTSIDE);
            refusedBeyond(21, outside, start, "fail(*, *)", 1, 3, OUTSIDE);
        }
        for (int what = 0; what < 3; what++) {
            String call = "fail(" + (what + 1) + ", " + what + ")";
            refused(21, TWELVE_FAILS, WITHOUT_FRAME, call, STATE);
            refused(21, TWELVE_FAILS, WITHOUT_FORMULA, call, STATE);
            refused(21, TWELVE_FAILS, FAILED, call, STATE);
            refused(21, TWELVE_FAILS, FAILED_WITHOUT_END, call, STATE);
        }
        for (Start start : new Start[] {NEW, FORMULA, FRAME, FAILED, FAILED_WITHOUT_END}) {
            firstBeyond(start, "fail(*, 0)", 1, 3, OUTSIDE);
            firstBeyond(start, "fail(1, *)", 0, 2, OUTSIDE);
        }
    }

    private void tells() {
        String outside = "OUTSIDE if law is out of range";
        for (Start start : new Start[] {BOTH, FORMULA, FOUR_WORLDS, FAILED}) {
            refusedBeyond(22, outside, start, "tells(*)", 0, 4, OUTSIDE);
        }
        for (int law = 0; law < 5; law++) {
            refused(22, TWELVE_TELLS, WITHOUT_FORMULA, "tells(" + law + ")", STATE);
            refused(22, TWELVE_TELLS, TOLD, "tells(" + law + ")", STATE);
        }
        for (Start start : new Start[] {NEW, TYPED, FRAME, TOLD}) {
            firstBeyond(start, "tells(*)", 0, 4, OUTSIDE);
        }
    }

    private void keepsAndSee() {
        for (Start start : WITH_FRAME) {
            refusedBeyond(23, "OUTSIDE if law is out of range", start, "keeps(*)", 0, 4, OUTSIDE);
            refusedBeyond(24, "OUTSIDE if what is out of range", start, "see(*, true)", 0, 3, OUTSIDE);
            refusedBeyond(24, "OUTSIDE if what is out of range", start, "see(*, false)", 0, 3, OUTSIDE);
        }
        for (int law = 0; law < 5; law++) {
            refused(23, NO_FRAME, WITHOUT_FRAME, "keeps(" + law + ")", STATE);
        }
        for (int what = 0; what < 4; what++) {
            refused(24, NO_FRAME, WITHOUT_FRAME, "see(" + what + ", true)", STATE);
            refused(24, NO_FRAME, WITHOUT_FRAME, "see(" + what + ", false)", STATE);
            refused(24, "FULL if there are 6 observations already", SEEN_SIX, "see(" + what + ", true)", FULL);
            refused(24, "FULL if there are 6 observations already", SEEN_SIX, "see(" + what + ", false)", FULL);
        }
        for (Start start : new Start[] {NEW, TYPED, FORMULA, SEEN_SIX}) {
            firstBeyond(start, "see(*, true)", 0, 3, OUTSIDE);
            firstBeyond(start, "see(*, false)", 0, 3, OUTSIDE);
        }
        for (Start start : WITHOUT_FRAME) {
            firstBeyond(start, "keeps(*)", 0, 4, OUTSIDE);
        }
    }

    private void sortsAndCount() {
        for (Start start : new Start[] {NEW, FORMULA, BOTH, SEEN_SIX, NO_KIND, FULL_PAGE}) {
            refusedBeyond(26, "OUTSIDE if what is not 0 or 1", start, "sorts(*)", 0, 1, OUTSIDE);
            refusedBeyond(30, "OUTSIDE if what is not 0 to 10", start, "count(*)", 0, 10, OUTSIDE);
        }
    }

    private void drawn() {
        String outside = "OUTSIDE if an argument is out of range";
        String state = "STATE if there is no frame or no formula";
        for (Start start : new Start[] {BOTH, FRESHLY_READ, ONE_WORLD, FOUR_WORLDS}) {
            refusedBeyond(27, outside, start, "drawn(*, 5, 0)", 1, 60, OUTSIDE);
            refusedBeyond(27, outside, start, "drawn(3, 5, *)", 0, 2, OUTSIDE);
            refusedBeyond(27, outside, start, "drawn(*, -1, *)", 1, 60, OUTSIDE);
            for (int seed : new int[] {-1, -2, Integer.MIN_VALUE, Integer.MIN_VALUE + 1}) {
                refused(27, outside, start, "drawn(3, " + seed + ", 2)", OUTSIDE);
            }
        }
        for (Start start : new Start[] {NEW, TYPED, FRAME, FORMULA}) {
            for (int what = 0; what < 3; what++) {
                refused(27, state, start, "drawn(1, 0, " + what + ")", STATE);
                refused(27, state, start, "drawn(60, 2147483647, " + what + ")", STATE);
            }
            firstBeyond(start, "drawn(*, 0, 0)", 1, 60, OUTSIDE);
            firstBeyond(start, "drawn(1, 0, *)", 0, 2, OUTSIDE);
            first(start, "drawn(1, -1, 0)", OUTSIDE);
            first(start, "drawn(1, -2147483648, 0)", OUTSIDE);
        }
    }

    private void imageAndRestore() {
        String state = "STATE if nothing has been saved, or if frame() has read a frame since (even from the same text)";
        refused(28, NO_FRAME, WITHOUT_FRAME, "image()", STATE);
        refused(29, state, WITHOUT_FRAME, "restore()", STATE);
        refused(29, state, FRESHLY_READ, "restore()", STATE);
        refused(29, state, NO_KIND, "restore()", STATE);
    }

    private void restoreBehindWhat() {
        promise(29);
        says("STATE if nothing has been saved, or if frame() has read a frame since (even from the same text)");
        String saved = "see(2, false) = 1; image() = 2; forget() = 1; draw(1, 0, true) = 2; mark(1, 3) = 1; be(0) = 3";
        String back = "restore() = 2; about(0) = 3; about(2) = 1; arrow(1, 0) = 0; world(1, 2) = 1; sorts(0) = 8; count(5) = 1";
        with("y2:01;p1q", "Np", saved + "; " + back);
        for (String refused : new String[] {"y2:01;p1", "y2:01;p1q2", "", "y2:01;p1q "}) {
            FrameBoard board = with("y2:01;p1q", "Np", saved);
            checks.write(board, refused);
            checks.run(board, "frame() = -103; " + back + "; count(6) = " + refused.length());
        }
        for (String read : new String[] {"y2:01;p1q", "k1:;pq", LONGEST_FRAME}) {
            FrameBoard board = with("y2:01;p1q", "Np", saved);
            checks.readFrame(board, read);
            checks.run(board, "restore() = -103; count(5) = 0; sorts(0) = 31; about(1) = " + read.charAt(1));
            checks.run(board, "see(0, true) = 1; image() = " + read.charAt(1) + "; forget() = 1; restore() = "
                + read.charAt(1) + "; count(5) = 1; sorts(0) = 9");
        }
        FrameBoard board = with("y2:01;p1q", "Np", saved);
        checks.readFormula(board, "Mq");
        checks.run(board, back + "; sign(0) = 77");
        FrameBoard twice = with("y2:01;p1q", "", "image() = 2");
        checks.readFrame(twice, "y2:01;p1q");
        checks.readFrame(twice, "y2:01;p1q");
        checks.run(twice, "restore() = -103; image() = 2; restore() = 2");
    }
}
