import java.util.Collections;

/** Promises 1 to 6, sentence by sentence: the page, and what is read from it. */
final class TextEdges extends Edges {
    private static final String ALL_SIGNS = "pq~NM&|>";

    TextEdges(Checks checks, Document document) {
        super(checks, document);
    }

    void all() {
        aNewObject();
        objectsApart();
        letter();
        blank();
        faultAsFrame();
        faultAsFormula();
        faultAnswers();
        frame();
        formula();
    }

    private void aNewObject() {
        promise(1);
        says("Creates an object without a frame, a formula, observations and an image, with an empty page.");
        checks.fresh("about(0) = -103; about(1) = -103; world(0, 0) = -101; arrow(0, 0) = -101; image() = -103");
        checks.fresh("sign(0) = -101; part(0) = -101; tells(0) = -103");
        checks.fresh("forget() = 0");
        checks.fresh("sorts(0) = 31; sorts(1) = 0");
        checks.fresh("restore() = -103");
        checks.fresh("blank() = 0");
        checks.fresh("fault(0) = 0; fault(1) = 0; frame() = -103; formula() = -103");
        for (int what = 0; what <= 10; what++) {
            checks.fresh("count(" + what + ") = 0");
        }
    }

    /** What one object holds is its own: two are made and asked by turns, and a third one is still new. */
    private void objectsApart() {
        promise(1);
        says("Creates an object without a frame, a formula, observations and an image, with an empty page.");
        FrameBoard one = with("y3:01,12;p2q01", ">Mp&q~p", "see(1, true) = 1; image() = 3; see(0, false) = 2; be(4) = 3;"
            + " draw(2, 2, true) = 3; mark(0, 3) = 2; fail(1, 1) = 1; tells(0) = 0; letter(107) = 1; letter(50) = 2");
        long before = checks.ask(one, "digest()");
        FrameBoard other = checks.fresh("about(0) = -103; sign(0) = -101; forget() = 0; restore() = -103; blank() = 0");
        checks.readFrame(other, "t2:10,11;p01q");
        checks.readFormula(other, "|~qNp");
        checks.run(other, "see(3, false) = 1; image() = 2; take(0) = 1; forget() = 1; letter(113) = 1; letter(126) = 2;"
            + " letter(112) = 3; tells(1) = 0; tells(2) = 0; part(0) = 1");
        due(one, "digest()", before);
        checks.run(one, "part(0) = 3; part(1) = 6; part(3) = 2; sign(7) = -101; sign(6) = 112; valid() = 0; sorts(0) = 16;"
            + " count(9) = 1; count(10) = 1; fault(0) = 2; blank() = 2; restore() = 3; about(0) = 3; about(2) = 2;"
            + " world(0, 2) = 2; sorts(0) = 25");
        checks.run(other, "about(1) = 1; sign(1) = 126; part(0) = 1; count(9) = 0; count(10) = 2; sorts(0) = 31; fault(1) = 1;"
            + " restore() = 2; about(0) = 1; arrow(1, 0) = 1; world(1, 2) = 1; sorts(0) = 4; blank() = 3");
        checks.fresh("digest() = " + checksum(31, 0, 0, 0, 0, 0, 0, 0, 0, 0, 0, 0, 0) + "; restore() = -103; sign(0) = -101");
    }

    private void letter() {
        promise(2);
        says("Writes a character on the page.");
        FrameBoard board = new FrameBoard();
        for (int code = 32; code <= 126; code++) {
            due(board, "letter(" + code + ")", 1);
            due(board, "digest()", checksum(31, 0, code, 0, 0, 0, 0, 0, 0, 1, 0, 0, 0, 0));
            due(board, "blank()", 1);
        }

        says("`code`: its code, 32 to 126");
        beyond(checks.fresh("letter(32) = 1; letter(126) = 2; letter(31) = -102; letter(127) = -102; letter(33) = 3;"
            + " letter(125) = 4; letter(0) = -102; letter(128) = -102; letter(-32) = -102; letter(65536) = -102"),
            "letter(*)", 32, 126, OUTSIDE);

        says("Returns how many characters the page has then");
        FrameBoard filled = new FrameBoard();
        for (int had = 0; had < 66; had++) {
            due(filled, "letter(" + (32 + had) + ")", had + 1);
            due(filled, "count(6)", had + 1);
        }

        says("FULL if the page has 66 characters already");
        checks.run(filled, "letter(112) = -104; letter(32) = -104; letter(126) = -104; count(6) = 66");
        checks.run(filled, "blank() = 66; letter(112) = 1");
        checks.run(page("p".repeat(64)), "letter(112) = 65; letter(112) = 66; letter(112) = -104; letter(112) = -104;"
            + " blank() = 66; letter(112) = 1; letter(112) = 2");
    }

    private void blank() {
        promise(3);
        says("Empties the page.");
        checks.run(page("k2"), "blank() = 2; count(6) = 0; fault(0) = 0; fault(1) = 0; frame() = -103");
        FrameBoard board = page("pp");
        checks.run(board, "formula() = -103; blank() = 2; formula() = -103; letter(113) = 1; formula() = 1;"
            + " sign(0) = 113; sign(1) = -101");
        FrameBoard full = page("x".repeat(66));
        checks.run(full, "blank() = 66; count(6) = 0; fault(0) = 0; blank() = 0");
        checks.readFrame(full, LONGEST_FRAME);

        says("Returns how many characters it had.");
        checks.fresh("blank() = 0; blank() = 0");
        checks.run(page(" "), "blank() = 1; blank() = 0");
        checks.run(page("x".repeat(65)), "blank() = 65; blank() = 0");
        checks.run(page("x".repeat(66)), "blank() = 66; blank() = 0");
        checks.run(page("x".repeat(66)), "letter(120) = -104; letter(31) = -102; blank() = 66");
        checks.run(with("k1:;pq", "p", "blank() = 0"), "blank() = 0");
    }

    /** Asks for each character that there is whether it can stand behind a start. */
    private void canFollow(int what, String start, String allowed) {
        for (int code = 32; code <= 126; code++) {
            FrameBoard board = page(start + (char) code);
            boolean can = allowed.indexOf(code) >= 0;
            checks.due("fault(" + what + ") of " + start + (char) code, checks.ask(board, "fault(" + what + ")"),
                can ? start.length() + 1 : start.length());
        }
    }

    private void faultAsFrame() {
        promise(4);
        says("Returns the index (from 0 on) of the first character of the page that cannot stand there, after those"
            + " before it, in the text of a frame or a formula.");
        canFollow(0, "", "ktsyd");
        canFollow(0, "k", "1234");
        canFollow(0, "d4", ":");
        canFollow(0, "k1:", "0;");
        canFollow(0, "k1:0", "0");
        canFollow(0, "y3:", "012;");
        canFollow(0, "k3:2", "012");
        canFollow(0, "k3:21", ",;");
        canFollow(0, "k3:21,", "012");
        canFollow(0, "k4:", "0123;");
        canFollow(0, "k4:3", "0123");
        canFollow(0, "k3:;", "p");
        canFollow(0, "k1:;p", "0q");
        canFollow(0, "k4:;p", "0123q");
        canFollow(0, "k4:;p1", "23q");
        canFollow(0, "k4:;p3", "q");
        canFollow(0, "k4:;p0123", "q");
        canFollow(0, "k3:;p2q", "012");
        canFollow(0, "k3:;p12q0", "12");
        canFollow(0, "k3:;p0q2", "");
        canFollow(0, LONGEST_FRAME, "");
        for (String text : new String[] {"xk1:;pq", "kk", "k11", "k1::", "k1:;;", "k1:;pp", "k1:;pqq"}) {
            FrameBoard board = page(text);
            due(board, "fault(0)", text.startsWith("x") ? 0 : text.length() - 1);
            checks.write(board, "k1:;pq");
            due(board, "fault(0)", text.startsWith("x") ? 0 : text.length() - 1);
        }

        says("An arrow that is given twice is a fault at its second digit.");
        canFollow(0, "k3:01,0", "02");
        canFollow(0, "k3:00,01,0", "2");
        canFollow(0, "k3:01,1", "012");
        canFollow(0, "k1:00,0", "");
        canFollow(0, "k1:00", ",;");
        canFollow(0, "k1:00,", "0");
        canFollow(0, "k4:" + ALL_ARROWS, ",;");
        canFollow(0, "k4:" + ALL_ARROWS + ",", "0123");
        for (String arrow : ALL_ARROWS.split(",")) {
            checks.run(page("k4:" + ALL_ARROWS + "," + arrow), "fault(0) = 52; frame() = -103");
            checks.run(page("k4:" + arrow + "," + arrow + ";pq"), "fault(0) = 7; frame() = -103");
        }
    }

    private void faultAsFormula() {
        promise(4);
        says("Returns the index (from 0 on) of the first character of the page that cannot stand there, after those"
            + " before it, in the text of a frame or a formula.");
        canFollow(1, "", ALL_SIGNS);
        for (char sign : "~NM&|>".toCharArray()) {
            canFollow(1, "" + sign, ALL_SIGNS);
        }
        canFollow(1, "&p", ALL_SIGNS);
        canFollow(1, "p", "");
        canFollow(1, "q", "");
        canFollow(1, "~q", "");
        canFollow(1, ">pq", "");
        canFollow(1, "|Np~Mq", "");

        says("In a formula, a sign is also a fault if the formula could not be completed with at most 16 signs.");
        for (String one : new String[] {"~", "N", "M"}) {
            canFollow(1, one.repeat(13), ALL_SIGNS);
            canFollow(1, one.repeat(14), "pq~NM");
            canFollow(1, one.repeat(15), "pq");
            canFollow(1, one.repeat(15) + "p", "");
        }
        for (String two : new String[] {"&", "|", ">"}) {
            canFollow(1, two.repeat(6), ALL_SIGNS);
            canFollow(1, two.repeat(7), "pq~NM");
            canFollow(1, two.repeat(7) + "N", "pq");
            canFollow(1, two.repeat(7) + "p", "pq~NM");
            canFollow(1, two.repeat(7) + "pppppppN", "pq");
            canFollow(1, two.repeat(7) + "pppppppNq", "");
            canFollow(1, (two + "p").repeat(7), "pq~NM");
            canFollow(1, (two + "p").repeat(7) + "M", "pq");
        }
    }

    private void faultAnswers() {
        promise(4);
        says("`what`: 0: as a frame");
        checks.run(page("k1"), "fault(0) = 2; fault(1) = 0");
        checks.run(page("q"), "fault(0) = 0");
        checks.run(with("k1:;pq", "p", "letter(112) = 1"), "fault(0) = 0");

        says("1: as a formula");
        checks.run(page("Np"), "fault(1) = 2; fault(0) = 0");
        checks.run(page("k"), "fault(1) = 0");

        says("Returns the index");
        checks.run(page("x" + LONGEST_FRAME), "fault(0) = 0; fault(1) = 0");
        checks.run(page("kx"), "fault(0) = 1");
        checks.run(page(LONGEST_FRAME + "0"), "fault(0) = 61");
        checks.run(page(LONGEST_FRAME + "01234"), "fault(0) = 61; count(6) = 66");
        checks.run(page("x".repeat(66)), "fault(0) = 0; fault(1) = 0");
        checks.run(page("~".repeat(66)), "fault(1) = 15");
        checks.run(page("~".repeat(15) + "p".repeat(51)), "fault(1) = 16");

        says("the number of characters on the page if there is no such character (also if the text is not complete)");
        for (int length = 0; length <= LONGEST_FRAME.length(); length++) {
            due(page(LONGEST_FRAME.substring(0, length)), "fault(0)", length);
        }
        for (String formula : new String[] {"~NM&|>pqpq", "~~~~~~~~~~~~~~~p", "&&&&&&&Mpppppppp", ">p>p>p>p>p>p>pNq"}) {
            for (int length = 0; length <= formula.length(); length++) {
                due(page(formula.substring(0, length)), "fault(1)", length);
            }
        }
    }

    private void frame() {
        promise(5);
        says("Reads the page as the frame, in place of the one that there was.");
        FrameBoard board = with(LONGEST_FRAME, "Np", "about(2) = 16; take(0) = 3; be(3) = 0");
        checks.readFrame(board, "t1:;pq");
        checks.run(board, "about(0) = 1; about(1) = 1; about(2) = 0; world(0, 2) = 0; world(1, 0) = -101; add() = 1;"
            + " add() = 2; add() = 3; count(1) = 0; world(1, 2) = 0; world(2, 2) = 0; world(3, 2) = 0");
        checks.readFrame(board, "y2:10;p0q1");
        checks.run(board, "about(0) = 3; about(1) = 2; arrow(1, 0) = 1; arrow(0, 1) = 0; world(0, 2) = 1;"
            + " world(1, 2) = 2; count(7) = 3");
        checks.readFrame(board, LONGEST_FRAME);
        checks.run(board, "about(0) = 0; about(1) = 4; about(2) = 16; world(0, 2) = 3; world(3, 2) = 3");

        says("The page is empty then, and there are no observations.");
        for (int seen = 0; seen <= 6; seen += 3) {
            FrameBoard seer = with("k1:;pq", "", "see(0, false) = 1; see(2, true) = 2; forget() = 2");
            for (int i = 1; i <= seen; i++) {
                due(seer, "see(1, true)", i);
            }
            checks.write(seer, "k1:;pq");
            checks.run(seer, "count(6) = 6; frame() = 1; count(6) = 0; blank() = 0; count(5) = 0; sorts(0) = 31;"
                + " forget() = 0; see(0, false) = 1; sorts(0) = 22");
        }

        says("Returns the number of worlds");
        checks.run(page("k1:;pq"), "frame() = 1; count(0) = 1");
        checks.run(page("t2:01;pq1"), "frame() = 2; count(0) = 2");
        checks.run(page("s3:;p2q"), "frame() = 3; count(0) = 3");
        checks.run(page("d4:33;pq"), "frame() = 4; count(0) = 4");
        checks.run(page(LONGEST_FRAME), "count(6) = 61; frame() = 4");

        says("STATE if the page does not contain a correct and complete text of a frame (nothing changes then)");
        for (int length = 0; length < LONGEST_FRAME.length() - 4; length++) {
            checks.run(page(LONGEST_FRAME.substring(0, length)), "frame() = -103; count(0) = 0; count(6) = " + length);
        }
        for (int length = LONGEST_FRAME.length() - 4; length <= LONGEST_FRAME.length(); length++) {
            checks.run(page(LONGEST_FRAME.substring(0, length)), "frame() = 4; count(1) = 16");
        }
    }

    private void formula() {
        promise(6);
        says("Reads the page as the formula, in place of the one that there was.");
        FrameBoard board = with("k2:01;p1q", "&&&&&&&Mpppppppq", "sign(15) = 113; sign(16) = -101");
        checks.readFormula(board, "q");
        checks.run(board, "count(2) = 1; sign(0) = 113; sign(1) = -101; part(0) = 0; part(1) = -101");
        checks.readFormula(board, "&|pqM>pq");
        checks.run(board, "count(2) = 8; part(0) = 0; part(1) = 2; part(4) = 0; part(5) = 1; sign(8) = -101");
        checks.readFormula(board, "~~~~~~~~~~~~~~~p");
        checks.run(board, "count(2) = 16; sign(0) = 126; sign(15) = 112; part(0) = 1; part(15) = 2; count(8) = 4");

        says("The page is empty then.");
        checks.run(page("q"), "count(6) = 1; formula() = 1; count(6) = 0; blank() = 0; formula() = -103");
        checks.run(page("~~~~~~~~~~~~~~~p"), "formula() = 16; count(6) = 0; letter(112) = 1; formula() = 1");

        says("Returns the number of signs");
        for (int signs = 1; signs <= 16; signs++) {
            String ones = String.join("", Collections.nCopies(signs - 1, "N"));
            checks.run(page(ones + "p"), "formula() = " + signs + "; count(2) = " + signs);
        }
        for (int pairs = 0; pairs <= 7; pairs++) {
            checks.run(page(">".repeat(pairs) + "q".repeat(pairs + 1)), "formula() = " + (2 * pairs + 1));
        }

        says("STATE if the page does not contain a correct and complete formula (nothing changes then)");
        for (String formula : new String[] {"~~~~~~~~~~~~~~~p", "&&&&&&&Mpppppppq", ">p|q&p>q~N&pM~q"}) {
            for (int length = 0; length < formula.length(); length++) {
                checks.run(page(formula.substring(0, length)), "formula() = -103; count(2) = 0; count(6) = " + length);
            }
            due(page(formula), "formula()", formula.length());
        }
        for (String wrong : new String[] {"~".repeat(16) + "p", "&".repeat(8) + "p".repeat(9), "pp", "p ", " p", "P"}) {
            checks.run(page(wrong), "formula() = -103; count(2) = 0; count(6) = " + wrong.length());
        }
    }
}
