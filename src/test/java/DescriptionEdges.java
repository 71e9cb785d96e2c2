/** The description, sentence by sentence: the conventions, and the limits of all that the class deals with. */
final class DescriptionEdges extends Edges {
    /** For each property, the arrow numbers of the frames with two worlds that have it. */
    private static final int[][] LAWFUL = {
        {9, 11, 13, 15}, {0, 1, 2, 3, 4, 5, 8, 9, 10, 11, 12, 13, 15}, {0, 1, 6, 7, 8, 9, 14, 15},
        {5, 6, 7, 9, 10, 11, 13, 14, 15}, {0, 1, 5, 8, 9, 10, 15}};

    DescriptionEdges(Checks checks, Document document) {
        super(checks, document);
    }

    void all() {
        calls();
        section("Description");
        codes();
        noneOnlyWithoutError();
        frames();
        types();
        fitting();
        frameText();
        arrowText();
        formulaText();
        truthOfSigns();
        truthOfNAndM();
        parts();
        validity();
        numbers();
        properties();
        defining();
        bisimilarWorlds();
        similarWorlds();
        observations();
        randomNumbers();
    }

    private void calls() {
        section("What it is");
        says("An object is used for at most 512 calls after it has been made");
        FrameBoard board = new FrameBoard();
        for (int times = 0; times < 73; times++) {
            checks.readFrame(board, "k1:;pq");
        }
        due(board, "count(7)", 73);
        FrameBoard asked = with("k4:01,12,23;p3q", "Np", "about(4) = 4");
        for (int call = 21; call <= 511; call++) {
            due(asked, "drawn(1, 0, 2)", nextState(nextState(nextState(nextState(0)))));
        }
        due(asked, "world(2, 3)", 2);
    }

    private void codes() {
        says("NONE (-1) means \"there is none\".");
        checks.due("NONE", FrameBoard.NONE, -1);
        with("k1:;pq", "|p~p", "world(0, 5) = 1; as(1) = -1; fail(1, 0) = -1");
        says("The error codes are UNKNOWN (-101: a world or a part that does not exist), OUTSIDE (-102: another argument"
            + " out of its range), STATE (-103: the call is impossible in the current state) and FULL (-104: a capacity"
            + " is used up).");
        checks.due("UNKNOWN", FrameBoard.UNKNOWN, -101);
        checks.due("OUTSIDE", FrameBoard.OUTSIDE, -102);
        checks.due("STATE", FrameBoard.STATE, -103);
        checks.due("FULL", FrameBoard.FULL, -104);
        says("`NONE = -1, UNKNOWN = -101, OUTSIDE = -102, STATE = -103, FULL = -104`: The value for \"there is none\", and"
            + " the error codes.");
        with("k4:;pq", "p", "as(1) = -1; world(4, 0) = -101; part(1) = -101; be(5) = -102; restore() = -103; add() = -104");
        says("Sets are ints in which bit k stands for item k.");
        for (int set = 0; set < 16; set++) {
            FrameBoard board = with("k4:;pq", "p", "part(0) = 0");
            for (int world = 0; world < 4; world++) {
                due(board, "mark(" + world + ", " + (set >> world & 1) + ")", 0);
            }
            due(board, "part(0)", set);
        }
        with("k1:;pq", "", "sorts(0) = 31; see(0, true) = 1; sorts(0) = 9; see(2, false) = 2; sorts(0) = 8");
        with("k1:;pq", "", "see(0, false) = 1; see(3, false) = 2; sorts(0) = 4");
        with("k1:;pq", "", "see(1, true) = 1; see(0, false) = 2; sorts(0) = 16");
        with("k1:;pq", "", "see(0, true) = 1; see(2, true) = 2; sorts(0) = 1");
        with("k1:;pq", "", "see(1, false) = 1; see(3, true) = 2; sorts(0) = 2");
    }

    private void noneOnlyWithoutError() {
        says("NONE is returned only if no error applies.");
        checks.fresh("as(1) = -103; as(5) = -102; world(0, 4) = -101; world(0, 5) = -101");
        with("k1:;pq", "", "as(1) = -1; as(5) = -102; world(0, 4) = -1; world(0, 5) = -1; world(1, 4) = -101;"
            + " world(1, 5) = -101; world(0, 6) = -102; fail(1, 0) = -103; fail(4, 0) = -102");
        with("k1:;pq", "", "see(0, true) = 1; see(0, false) = 2; sorts(1) = -1; sorts(2) = -102; sorts(-1) = -102");
        FrameBoard board = with("k1:;pq", "|p~p", "fail(0, 0) = -102; fail(1, 3) = -102");
        for (int times = 0; times < 12; times++) {
            due(board, "fail(3, 2)", -1);
        }
        checks.run(board, "fail(3, 2) = -103; fail(1, 0) = -103; fail(0, 0) = -102");
    }

    private void frames() {
        says("At first there is no frame.");
        checks.fresh("about(1) = -103; count(0) = 0; world(0, 0) = -101; add() = -103; count(7) = 0");
        says("A frame has a kind from 0 to 4, 1 to 4 worlds, numbered from 0, for each pair of worlds A and B (also with"
            + " A = B) an arrow from A to B or none, and two atomic propositions p and q, each of which holds in some of"
            + " the worlds.");
        for (int worlds = 1; worlds <= 4; worlds++) {
            for (int kind = 0; kind < 5; kind++) {
                int all = (1 << (worlds * worlds)) - 1;
                FrameBoard board = checks.with(Checks.frameText(kind, worlds, all), "");
                checks.run(board, "about(0) = " + kind + "; about(1) = " + worlds + "; about(2) = " + worlds * worlds);
                checks.run(board, "world(0, 0) = " + worlds + "; world(" + (worlds - 1) + ", 1) = " + worlds + "; world("
                    + worlds + ", 0) = -101; world(-1, 0) = -101");
                with(Checks.frameText(kind, worlds, 0), "", "about(2) = 0; world(0, 2) = 0; mark(0, 3) = 0");
            }
        }
        with("k4:;p0123q", "|pq", "part(1) = 15; part(2) = 0");
        with("k4:;pq0123", "|pq", "part(1) = 0; part(2) = 15");
        says("(A frame need not fit its kind.)");
        for (int kind = 1; kind < 5; kind++) {
            with(Checks.frameText(kind, 2, 2), "", "about(3) = 0; about(0) = " + kind + "; as(" + kind + ") = " + kind);
            with(Checks.frameText(kind, 2, 15), "", "about(3) = 1; draw(0, 0, false) = 3; draw(0, 1, false) = 2;"
                + " about(3) = 0; add() = 2; be(1) = " + kind + "; about(3) = 0");
        }
        with("k2:01;pq", "", "about(3) = 1; be(3) = 0; about(3) = 0; close() = 1; about(3) = 1");
    }

    private void types() {
        says("The kinds are types: 0 is the type of all frames");
        for (int kind = 0; kind < 5; kind++) {
            with(Checks.frameText(kind, 1, 0), "", "as(0) = " + kind);
        }
        says("1 reflexive, 3 symmetric and 4 serial are subtypes of it");
        with("k1:;pq", "", "as(1) = -1; as(3) = -1; as(4) = -1");
        with("t1:;pq", "", "as(1) = 1; as(3) = -1; as(4) = -1");
        with("y1:;pq", "", "as(1) = -1; as(3) = 3; as(4) = -1");
        with("d1:;pq", "", "as(1) = -1; as(3) = -1; as(4) = 4");
        says("2 preorder is a subtype of reflexive.");
        with("s1:;pq", "", "as(2) = 2; as(1) = 2; as(3) = -1; as(4) = -1");
        with("t1:00;pq", "", "as(2) = -1; as(1) = 1");
        with("k1:00;pq", "", "as(2) = -1");
        with("y1:00;pq", "", "as(2) = -1");
        with("d1:00;pq", "", "as(2) = -1");
    }

    private static boolean isIn(int[] numbers, int number) {
        for (int one : numbers) {
            if (one == number) {
                return true;
            }
        }
        return false;
    }

    private void fitsLike(int kind, int law) {
        for (int number = 0; number < 16; number++) {
            with(Checks.frameText(kind, 2, number), "", "about(3) = " + (isIn(LAWFUL[law], number) ? 1 : 0));
        }
    }

    private void fitting() {
        says("A frame fits its kind: of kind 0, always");
        for (int number = 0; number < 16; number++) {
            with(Checks.frameText(0, 2, number), "", "about(3) = 1");
        }
        says("of kind 1, if each world has an arrow to itself");
        fitsLike(1, 0);
        with("t4:00,11,22,33;pq", "", "about(3) = 1; draw(3, 3, false) = 3; about(3) = 0");
        with("t4:00,11,22,33,01,12;pq", "", "about(3) = 1; draw(0, 0, false) = 5; about(3) = 0");
        says("of kind 2, if that is so and, whenever there are arrows from A to B and from B to C, there is one from A"
            + " to C");
        fitsLike(2, 0);
        with("s4:00,11,22,33;pq", "", "about(3) = 1; draw(1, 3, true) = 5; about(3) = 1; draw(3, 2, true) = 6; about(3) = 0;"
            + " draw(1, 2, true) = 7; about(3) = 1; draw(2, 2, false) = 6; about(3) = 0");
        with("s3:01,12,02;pq", "", "keeps(1) = 1; about(3) = 0");
        says("of kind 3, if whenever there is an arrow from A to B there is one from B to A");
        fitsLike(3, 2);
        with("y4:;pq", "", "about(3) = 1; draw(3, 3, true) = 1; about(3) = 1; draw(3, 0, true) = 2; about(3) = 0;"
            + " draw(0, 3, true) = 3; about(3) = 1; draw(2, 3, true) = 4; about(3) = 0");
        says("of kind 4, if there is at least one arrow from each world.");
        fitsLike(4, 3);
        with("d4:03,13,23,30;pq", "", "about(3) = 1; draw(3, 0, false) = 3; about(3) = 0; draw(3, 3, true) = 4; about(3) = 1;"
            + " draw(0, 3, false) = 3; about(3) = 0");
    }

    private void reads(String text) {
        due(page(text), "frame()", text.charAt(1) - '0');
    }

    private void refuses(String text, int fault) {
        checks.run(page(text), "fault(0) = " + fault + "; frame() = -103; count(0) = 0; count(6) = " + text.length());
    }

    private void frameText() {
        says("The text of a frame is: a letter k, t, s, y or d for the kind 0, 1, 2, 3 or 4");
        for (int kind = 0; kind < 5; kind++) {
            checks.run(page("ktsyd".charAt(kind) + "1:;pq"), "frame() = 1; about(0) = " + kind);
        }
        for (char letter : "jlruxzceKTSYD0".toCharArray()) {
            refuses(letter + "1:;pq", 0);
        }
        refuses("1:;pq", 0);
        says("a digit from 1 to 4, the number of worlds");
        for (int worlds = 1; worlds <= 4; worlds++) {
            checks.run(page("k" + worlds + ":;pq"), "frame() = " + worlds + "; about(1) = " + worlds);
        }
        for (char digit : "059/:a".toCharArray()) {
            refuses("k" + digit + ":;pq", 1);
        }
        refuses("k12:;pq", 2);
        says("':'");
        refuses("k1;pq", 2);
        refuses("k1;;pq", 2);
        refuses("k1,;pq", 2);
        refuses("k1::;pq", 3);
        says("';'");
        refuses("k1:pq", 3);
        refuses("k1::pq", 3);
        refuses("k1:00pq", 5);
        refuses("k1:;;pq", 4);
        says("'p' and the digits of the worlds in which p holds, in ascending order");
        with("k4:;p13q", "|pq", "part(1) = 10; part(2) = 0");
        reads("k4:;p0123q");
        refuses("k4:;q", 4);
        refuses("k4:;P0q", 4);
        refuses("k4:;p10q", 6);
        refuses("k4:;p00q", 6);
        refuses("k4:;p032q", 7);
        refuses("k4:;p4q", 5);
        refuses("k3:;p3q", 5);
        refuses("k1:;p1q", 5);
        refuses("k4:;p0,1q", 6);
        says("'q' and the digits of the worlds in which q holds, in ascending order.");
        with("k4:;p3q02", "|pq", "part(1) = 8; part(2) = 5");
        reads("k4:;pq0123");
        refuses("k4:;p0", 6);
        refuses("k4:;p0Q", 6);
        refuses("k4:;p0q10", 8);
        refuses("k4:;p0q11", 8);
        refuses("k4:;p3q4", 7);
        refuses("k2:;p1q2", 7);
        refuses("k1:;pq1", 6);
        refuses("k1:;pq0;", 7);
    }

    private void arrowText() {
        says("the arrows, with ',' between two of them (or nothing), each as two digits, the world from which and the"
            + " world to which it leads");
        with("k3:12;pq", "", "arrow(1, 2) = 1; arrow(2, 1) = 0; about(2) = 1");
        with("k3:21,00;pq", "", "arrow(2, 1) = 1; arrow(0, 0) = 1; about(2) = 2");
        with("k3:;pq", "", "about(2) = 0");
        with(LONGEST_FRAME, "", "about(2) = 16");
        with("k4:33,32,31,30,23,22,21,20,13,12,11,10,03,02,01,00;pq", "", "about(2) = 16");
        refuses("k3:,;pq", 3);
        refuses("k3:01,;pq", 6);
        refuses("k3:,01;pq", 3);
        refuses("k3:01,,12;pq", 6);
        refuses("k3:0112;pq", 5);
        refuses("k3:01;12;pq", 6);
        refuses("k3:0;pq", 4);
        refuses("k3:0,1;pq", 4);
        refuses("k3:012;pq", 5);
        refuses("k3:30;pq", 3);
        refuses("k3:03;pq", 4);
        refuses("k1:10;pq", 3);
        refuses("k1:01;pq", 4);
        refuses("k4:40;pq", 3);
        refuses("k4:34;pq", 4);
        says("No arrow is given twice.");
        refuses("k2:01,01;pq", 7);
        refuses("k2:01,10,11,10;pq", 13);
        refuses("k1:00,00;pq", 7);
        refuses("k4:" + ALL_ARROWS + ",00;pq", 52);
        reads("k2:01,10,00,11;pq");
        says("There are no blanks.");
        String text = "k2:01,10;p0q1";
        for (int at = 0; at <= text.length(); at++) {
            refuses(text.substring(0, at) + " " + text.substring(at), at);
        }
        reads(text);
    }

    private void formulaText() {
        says("At first there is no formula.");
        checks.fresh("count(2) = 0; sign(0) = -101; part(0) = -101; tells(0) = -103; count(8) = 0");
        with("k1:;pq", "", "world(0, 5) = -1; valid() = -103; drawn(1, 0, 0) = -103; fail(1, 0) = -103");
        says("A formula is a text of 1 to 16 signs in prefix notation: p");
        checks.run(page(""), "formula() = -103; fault(1) = 0");
        checks.run(page("p"), "formula() = 1");
        checks.run(page("~".repeat(14) + "p"), "formula() = 15");
        checks.run(page("~".repeat(15) + "p"), "formula() = 16");
        checks.run(page("~".repeat(16) + "p"), "fault(1) = 15; formula() = -103");
        checks.run(page("&".repeat(8) + "p".repeat(9)), "fault(1) = 7; formula() = -103");
        checks.run(page("p&q"), "fault(1) = 1; formula() = -103");
        checks.run(page("p~"), "fault(1) = 1; formula() = -103");
        says("q;");
        checks.run(page("q"), "formula() = 1; sign(0) = 113");
        checks.run(page("r"), "fault(1) = 0; formula() = -103");
        checks.run(page("o"), "fault(1) = 0; formula() = -103");
        says("~ and a formula (negation)");
        unary('~');
        says("N and a formula (necessarily)");
        unary('N');
        says("M and a formula (possibly)");
        unary('M');
        says("or one of the signs '&', '|' and '>' (conjunction, disjunction, implication) and two formulas.");
        for (char sign : "&|>".toCharArray()) {
            checks.run(page(sign + "pq"), "formula() = 3; sign(0) = " + (int) sign);
            checks.run(page(sign + "p" + sign + "pq"), "formula() = 5");
            checks.run(page(sign + "p"), "fault(1) = 2; formula() = -103");
            checks.run(page("" + sign), "fault(1) = 1; formula() = -103");
            checks.run(page(sign + "pqp"), "fault(1) = 3; formula() = -103");
        }
        for (char wrong : "=<+v^n m'%{}?".toCharArray()) {
            checks.run(page(wrong + "pq"), "fault(1) = 0; formula() = -103");
        }
    }

    private void unary(char sign) {
        checks.run(page(sign + "p"), "formula() = 2; sign(0) = " + (int) sign + "; sign(1) = 112");
        checks.run(page("" + sign), "fault(1) = 1; formula() = -103");
        checks.run(page(sign + "pq"), "fault(1) = 2; formula() = -103");
    }

    private void truthOfSigns() {
        String frame = "k4:;p13q23";
        says("p and q hold where they do in the frame");
        with(frame, "p", "part(0) = 10; mark(0, 1) = 0; part(0) = 11");
        with(frame, "q", "part(0) = 12; mark(3, 1) = 3; part(0) = 4");
        says("~ holds where the formula does not");
        with(frame, "~p", "part(0) = 5");
        with("k4:;pq0123", "&~p~q", "part(1) = 15; part(3) = 0");
        says("& where both hold");
        with(frame, "&pq", "part(0) = 8");
        with(frame, "&qp", "part(0) = 8");
        says("| where at least one holds");
        with(frame, "|pq", "part(0) = 14");
        with(frame, "|qp", "part(0) = 14");
        says("> where the first one does not hold or the second one does");
        with(frame, ">pq", "part(0) = 13");
        with(frame, ">qp", "part(0) = 11");
        with(frame, ">>pqp", "part(0) = 10");
        with(frame, ">p>qp", "part(0) = 15");
    }

    private void truthOfNAndM() {
        String frame = "k4:01,02,11,22,23;p12q3";
        says("N holds in a world if the formula holds in all worlds to which there is an arrow from it");
        with(frame, "Np", "part(0) = 11; draw(2, 3, false) = 4; part(0) = 15");
        with("k4:;pq", "Np", "part(0) = 15; draw(3, 3, true) = 1; part(0) = 7; draw(3, 0, true) = 2; mark(3, 1) = 0;"
            + " part(0) = 7; mark(0, 1) = 0; part(0) = 15");
        with("k1:;pq", "Np", "part(0) = 1; draw(0, 0, true) = 1; part(0) = 0");
        says("M if it holds in at least one of these.");
        with(frame, "Mq", "part(0) = 4; draw(2, 3, false) = 4; part(0) = 0");
        with("k4:;p0123q", "Mp", "part(0) = 0; draw(3, 3, true) = 1; part(0) = 8; draw(3, 0, true) = 2; mark(3, 0) = 1;"
            + " part(0) = 8; mark(0, 0) = 1; part(0) = 0");
        with("k1:;p0q", "Mp", "part(0) = 0; draw(0, 0, true) = 1; part(0) = 1");
        with("k4:01,12,23;p3q", "MMMp", "part(0) = 1; part(1) = 2; part(2) = 4; part(3) = 8");
    }

    private void parts() {
        says("The parts of a formula are the formulas that begin at its signs");
        with("k4:;p13q23", ">&pq|~pq", "part(0) = 15; part(1) = 8; part(2) = 10; part(3) = 12; part(4) = 13; part(5) = 5;"
            + " part(6) = 10; part(7) = 12");
        with("k4:;p13q23", "&&&&&&&Mpppppppq", "part(0) = 0; part(6) = 0; part(7) = 0; part(8) = 10; part(15) = 12");
        says("they are numbered like the signs, from 0.");
        with("k4:;p13q23", "~p", "part(0) = 5; part(1) = 10; part(2) = -101; part(-1) = -101; sign(0) = 126; sign(1) = 112;"
            + " sign(2) = -101; sign(-1) = -101");
        says("Reading another frame does not change the formula, and vice versa.");
        FrameBoard board = with("y2:01;p1q", "Mp", "see(1, true) = 1; image() = 2");
        checks.readFormula(board, "~~~~~~~~~~~~~~~q");
        checks.run(board, "about(0) = 3; about(1) = 2; about(2) = 1; world(1, 2) = 1; count(5) = 1; count(7) = 1;"
            + " restore() = 2; count(5) = 1");
        checks.readFrame(board, LONGEST_FRAME);
        checks.run(board, "count(2) = 16; sign(0) = 126; sign(15) = 113; part(15) = 15; part(0) = 0; count(8) = 2");
    }

    /** Each of the first four formulas fails under one valuation alone, one in each quarter of the 256. */
    private void validity() {
        says("A formula is valid in a frame if it holds in all worlds, in whatever worlds p and q hold.");
        with(Checks.frameText(0, 4, 0x22f6), "MM>pq", "valid() = 0");
        with(Checks.frameText(0, 4, 0xbb21), ">&qpM>pq", "valid() = 0");
        with(Checks.frameText(0, 4, 0x8b63), "N|M>qMpq", "valid() = 0");
        with(Checks.frameText(0, 4, 0x4f44), "MM>qp", "valid() = 0");
        with("k4:33;p0123q", "|~pNp", "part(0) = 15; valid() = 1; draw(3, 2, true) = 2; part(0) = 15; valid() = 0");
        with("k4:00;pq0123", ">qNq", "part(0) = 15; valid() = 1; draw(0, 1, true) = 2; part(0) = 15; valid() = 0");
        with("k1:;p0q", "|pq", "part(0) = 1; valid() = 0");
        with("k1:;p0q", "|p~p", "valid() = 1");
        with("k3:;p012q", "p", "part(0) = 7; valid() = 0");
        with("k2:00,01,10,11;pq", ">MpNMp", "valid() = 1; draw(1, 0, false) = 3; valid() = 0");
    }

    private void numbers() {
        says("The numbers of a frame with n worlds are: the arrow number, the sum of 2 to the power of (n * A + B) over all"
            + " arrows from A to B");
        with("k1:;pq", ">NpNNp", "fail(2, 0) = 6; fail(3, 0) = 10; fail(1, 0) = -1");
        with("t1:;pq", "p", "fail(1, 0) = 1; fail(2, 0) = 9; fail(3, 0) = 273");
        with("d1:;pq", "p", "fail(1, 0) = 1; fail(2, 0) = 5; fail(3, 0) = 73");
        with("k1:;pq", "N>MMp>~pMM~&pp", "fail(3, 0) = 82");
        with("k1:;pq", "||~qNpMN>NMpp", "fail(2, 0) = 15");
        says("and the valuation number, the sum of 2 to the power of A over all worlds A in which p holds, plus the sum of"
            + " 2 to the power of (n + A) over all worlds A in which q holds.");
        with("k1:;pq", "~p", "fail(1, 1) = 1; fail(2, 1) = 1; fail(3, 1) = 1");
        with("k1:;pq", "~q", "fail(1, 1) = 2; fail(2, 1) = 4; fail(3, 1) = 8");
        with("k1:;pq", "~&pq", "fail(1, 1) = 3; fail(2, 1) = 5; fail(3, 1) = 9");
        with("k1:;pq", "N>N&pqNMp", "fail(2, 1) = 15");
        with("t1:;pq", ">p|~N&NMNNpqNp", "fail(3, 1) = 61");
        with("y1:;pq", "N|p|>NM&NqMpMpp", "fail(3, 1) = 58");
        with("y1:;pq", ">p~~>MNq&pMNp", "fail(2, 1) = 14");
    }

    private void keepsLike(int law) {
        for (int number = 0; number < 16; number++) {
            with(Checks.frameText(0, 2, number), "", "keeps(" + law + ") = " + (isIn(LAWFUL[law], number) ? 1 : 0));
        }
    }

    private void properties() {
        says("Frames can have these properties: 0 each world has an arrow to itself");
        keepsLike(0);
        with("k4:00,11,22,33;pq", "", "keeps(0) = 1; draw(3, 3, false) = 3; keeps(0) = 0");
        says("1 whenever there are arrows from A to B and from B to C, there is one from A to C");
        keepsLike(1);
        with("k4:12,23;pq", "", "keeps(1) = 0; draw(1, 3, true) = 3; keeps(1) = 1; draw(3, 1, true) = 4; keeps(1) = 0");
        with("k1:;pq", "", "keeps(1) = 1; draw(0, 0, true) = 1; keeps(1) = 1");
        says("2 whenever there is an arrow from A to B, there is one from B to A");
        keepsLike(2);
        with("k4:23;pq", "", "keeps(2) = 0; draw(3, 2, true) = 2; keeps(2) = 1; draw(3, 3, true) = 3; keeps(2) = 1");
        says("3 there is an arrow from each world");
        keepsLike(3);
        with("k4:03,13,23;pq", "", "keeps(3) = 0; draw(3, 0, true) = 4; keeps(3) = 1; draw(0, 3, false) = 3; keeps(3) = 0");
        says("4 whenever there are arrows from A to B and from A to C, there is one from B to C.");
        keepsLike(4);
        with("k4:12,13;pq", "", "keeps(4) = 0; draw(2, 3, true) = 3; draw(3, 2, true) = 4; keeps(4) = 0;"
            + " draw(2, 2, true) = 5; draw(3, 3, true) = 6; keeps(4) = 1");
    }

    private void defining() {
        says("The formula defines a property if, of all frames with three worlds, it is valid in exactly those that have the"
            + " property.");
        with("", ">Npp", "tells(0) = 1; tells(1) = 0");
        with("", ">NpNNp", "tells(1) = 1; tells(0) = 0");
        with("", ">MNpp", "tells(2) = 1; tells(4) = 0");
        with("", "M|p~p", "tells(3) = 1; tells(0) = 0");
        with("", ">MpNMp", "tells(4) = 1; tells(1) = 0");
        // These tell the frames with one and two worlds apart, too, but not all with three.
        with("", ">~~pM>~MNpp", "tells(0) = 0");
        with("", "N>Mq>Nqq", "tells(1) = 0");
        with("", ">MN&NNpNqp", "tells(2) = 0");
        with("", "M>pNMp", "tells(3) = 0");
        with("", ">MqNMNMq", "tells(4) = 0");
        // These do not tell all frames with four worlds apart.
        with("", ">p|NM|~NMqpq", "tells(2) = 1");
        with("", "M|>MNNpMpp", "tells(3) = 1");
        // Valid in all frames, and in none: that is no property of these.
        with("k1:;pq", "|p~p", "tells(0) = 0; tells(1) = 0; tells(2) = 0; tells(3) = 0; tells(4) = 0");
        with("k4:;pq", "p", "tells(0) = 0; tells(1) = 0; tells(2) = 0; tells(3) = 0; tells(4) = 0");
        for (String frame : new String[] {"s1:00;pq", "d4:;p0q", "y2:01;pq"}) {
            with(frame, ">Npp", "tells(0) = 1; tells(4) = 0");
        }
    }

    private void bisimilarWorlds() {
        says("Two worlds are distinguished if p or q holds in exactly one of them");
        with("k2:;p0q", "", "about(4) = 2; mark(1, 1) = 0; about(4) = 1; world(1, 3) = 0");
        with("k2:;pq1", "", "about(4) = 2; mark(0, 2) = 0; about(4) = 1; mark(0, 3) = 2; about(4) = 2");
        with("k2:;p0q1", "", "about(4) = 2; world(1, 3) = 1");
        says("and further, again and again, if there is an arrow from one of them to some world, and no arrow from the other"
            + " one to any world that is not distinguished from that.");
        with("k2:00;pq", "", "about(4) = 2; draw(1, 0, true) = 2; about(4) = 1");
        with("k4:01,12,23;pq", "", "about(4) = 4; world(0, 3) = 0; world(1, 3) = 1; world(2, 3) = 2; world(3, 3) = 3");
        with("k4:10,21,32;pq", "", "about(4) = 4; draw(3, 3, true) = 4; about(4) = 4; draw(3, 2, false) = 3; about(4) = 4");
        with("k4:01,12,23,33;p3q", "", "about(4) = 4; mark(3, 0) = 1; about(4) = 1");
        with("k4:02,12,13;p3q", "", "about(4) = 4; world(1, 3) = 1; draw(0, 3, true) = 4; about(4) = 3; world(1, 3) = 0");
        says("Worlds that are never distinguished are bisimilar.");
        with("k1:;pq", "", "about(4) = 1");
        with("k4:01,12,23,30;pq", "", "about(4) = 1; world(3, 3) = 0");
        with("k4:01,10,22,32;p0123q", "", "about(4) = 1; world(1, 3) = 0; world(2, 3) = 0; world(3, 3) = 0");
        with("k4:01,02,13,23;pq", "", "about(4) = 3; world(2, 3) = 1; world(3, 3) = 3");
    }

    private void similarWorlds() {
        says("Two worlds are similar for the formula if exactly the same of its parts hold in them.");
        with("k2:00;p0q", "q", "world(1, 4) = 0; world(1, 3) = 1");
        with("k2:;p0q", "|q~q", "world(1, 4) = 0");
        with("k2:;p0q", "|p~p", "part(0) = 3; world(1, 4) = 1");
        with("k2:;pq1", ">qq", "part(0) = 3; part(2) = 2; world(1, 4) = 1");
        with("k2:;pq1", "&pq", "part(0) = 0; part(1) = 0; world(1, 4) = 1");
        with("k2:00;pq", "Mp", "world(1, 4) = 0; mark(0, 1) = 0; world(1, 4) = 1");
        with("k2:00;pq", "Np", "part(1) = 0; part(0) = 2; world(1, 4) = 1");
        FrameBoard board = with("k4:01,12,23;pq", "~~~~~~~~~~~~~~~p", "world(3, 4) = 0; world(3, 3) = 3; mark(0, 1) = 0;"
            + " world(3, 4) = 1");
        checks.readFormula(board, "q");
        checks.run(board, "world(1, 4) = 0; world(3, 4) = 0");
    }

    private void observations() {
        says("There are at most 6 observations about the kind of an unknown frame that fits its kind.");
        with("k1:;pq", "", "see(0, true) = 1; see(1, true) = 2; see(2, true) = 3; see(3, true) = 4; see(0, true) = 5;"
            + " see(1, true) = 6; see(2, true) = -104; see(3, false) = -104; count(5) = 6; sorts(0) = 1");
        says("An observation says whether frames of this kind can contain a certain thing:");
        with("k1:;pq", "", "see(2, true) = 1; sorts(0) = 23; forget() = 1; see(2, false) = 1; sorts(0) = 8");
        String[] things = {"0 a world from which there is no arrow (kinds 0 and 3 can)",
            "1 a world without an arrow to itself (kinds 0, 3 and 4 can)",
            "2 an arrow without one back (kinds 0, 1, 2 and 4 can)",
            "3 arrows from A to B and from B to C without one from A to C (kinds 0, 1, 3 and 4 can)"};
        int[] can = {0b01001, 0b11001, 0b10111, 0b11011};
        for (int thing = 0; thing < 4; thing++) {
            says(things[thing]);
            with("k1:;pq", "", "see(" + thing + ", true) = 1; sorts(0) = " + can[thing] + "; forget() = 1; see(" + thing
                + ", false) = 1; sorts(0) = " + (31 - can[thing]));
        }
        says("A kind is possible if all observations are true for it.");
        checks.fresh("sorts(0) = 31");
        with("k1:;pq", "", "see(1, true) = 1; sorts(0) = 25; see(0, false) = 2; sorts(0) = 16; see(2, true) = 3;"
            + " sorts(0) = 16; see(2, false) = 4; sorts(0) = 0; see(2, true) = 5; sorts(0) = 0");
        with("d4:03,13,23;pq", "", "see(0, true) = 1; sorts(0) = 9; be(3) = 4; sorts(0) = 9; close() = 3; sorts(0) = 9");
        with("k1:;pq", "", "see(3, true) = 1; see(3, true) = 2; sorts(0) = 27; see(3, false) = 3; sorts(0) = 0");
    }

    private void randomNumbers() {
        says("A random number less than 4 is drawn from a state x as follows: x becomes (1103515245 * x + 12345) modulo 2 to"
            + " the power of 31");
        FrameBoard board = with("k1:;pq", "p", "drawn(1, 0, 2) = 12345; drawn(2, 0, 2) = 1406932606;"
            + " drawn(3, 0, 2) = 654583775; drawn(4, 0, 2) = 1449466924; drawn(1, 2147483647, 2) = 1043980748");
        for (int seed : new int[] {1, 12345, 1 << 30, 1043980748, Integer.MAX_VALUE - 1}) {
            due(board, "drawn(1, " + seed + ", 2)", nextState(seed));
        }
        long x = Integer.MAX_VALUE;
        for (int times = 1; times <= 60; times++) {
            x = nextState(x);
            due(board, "drawn(" + times + ", 2147483647, 2)", x);
        }
        says("the random number is (x / 65536, rounded down) modulo 4.");
        // The numbers drawn from the state 0 on are 0, 0, 0, 1, 2, 3.
        with("k1:;pq", "p", "drawn(3, 0, 0) = 0; drawn(4, 0, 0) = 1; drawn(5, 0, 0) = 1; drawn(6, 0, 0) = 2");
        with("k1:;pq", "q", "drawn(3, 0, 0) = 0; drawn(4, 0, 0) = 0; drawn(5, 0, 0) = 1; drawn(6, 0, 0) = 2");
        with("k4:;pq", "p", "drawn(1, 0, 0) = 1; drawn(1, 0, 1) = 0");
        with("k4:;pq", "q", "drawn(1, 0, 0) = 0; drawn(1, 0, 1) = 0");
    }
}
