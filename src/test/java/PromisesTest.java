/** A test for each promise of the document: ordinary inputs, the edges that it names, and wrong inputs. */
public final class PromisesTest {
    private static final int[] WRONG = {Integer.MIN_VALUE, -1, 127, 128, 1 << 20, Integer.MAX_VALUE};

    private final Checks checks = new Checks();

    public static void main(String[] args) {
        PromisesTest test = new PromisesTest();
        test.aNewObject();
        test.letter();
        test.blank();
        test.faultInFrame();
        test.faultInFormula();
        test.frame();
        test.formula();
        test.about();
        test.as();
        test.world();
        test.arrow();
        test.part();
        test.sign();
        test.draw();
        test.mark();
        test.add();
        test.take();
        test.be();
        test.close();
        test.closeAddsAsFewAsPossible();
        test.shrink();
        test.valid();
        test.fail();
        test.failAtMostTwelveTimes();
        test.tells();
        test.keeps();
        test.see();
        test.forget();
        test.sorts();
        test.drawn();
        test.image();
        test.restore();
        test.count();
        test.digest();
        test.checks.finish("PromisesTest");
    }

    private FrameBoard with(String frame, String formula, String calls) {
        FrameBoard board = checks.with(frame, formula);
        checks.run(board, calls);
        return board;
    }

    /** Asks for the same answer for each wrong argument, put where the call has a star. */
    private void wrong(FrameBoard board, String call, int answer) {
        for (int value : WRONG) {
            checks.run(board, call.replace("*", "" + value) + " = " + answer);
        }
    }

    // Promise 1
    private void aNewObject() {
        checks.fresh("count(0) = 0; count(1) = 0; count(2) = 0; count(3) = 0; count(4) = 0; count(5) = 0;"
            + " count(6) = 0; count(7) = 0; count(8) = 0; count(9) = 0; count(10) = 0; blank() = 0; forget() = 0");
        checks.fresh("formula() = -103; frame() = -103; restore() = -103; image() = -103; sorts(0) = 31");
    }

    // Promise 2
    private void letter() {
        FrameBoard board = checks.fresh("letter(31) = -102; letter(127) = -102; letter(32) = 1; letter(126) = 2");
        wrong(board, "letter(*)", -102);
        for (int had = 2; had < 66; had++) {
            checks.run(board, "letter(112) = " + (had + 1));
        }
        checks.run(board, "letter(112) = -104; letter(31) = -102; letter(127) = -102; count(6) = 66; blank() = 66;"
            + " letter(32) = 1");
    }

    // Promise 3
    private void blank() {
        FrameBoard board = checks.fresh("blank() = 0; letter(112) = 1; letter(113) = 2; blank() = 2; blank() = 0;"
            + " fault(1) = 0; formula() = -103; letter(113) = 1; formula() = 1; sign(0) = 113");
        checks.run(board, "blank() = 0; count(2) = 1");
    }

    private void fault(int what, String text, int index) {
        FrameBoard board = new FrameBoard();
        checks.write(board, text);
        checks.due("fault(" + what + ") of " + text, checks.ask(board, "fault(" + what + ")"), index);
        checks.due("characters after fault() of " + text, checks.ask(board, "count(6)"), text.length());
    }

    // Promise 4
    private void faultInFrame() {
        wrong(checks.fresh("fault(0) = 0; fault(1) = 0; fault(2) = -102"), "fault(*)", -102);
        fault(0, "x", 0);
        fault(0, "K1:", 0);
        fault(0, "k0", 1);
        fault(0, "k5", 1);
        fault(0, "k4", 2);
        fault(0, "k1;", 2);
        fault(0, "k1: ;", 3);
        fault(0, "k2:,", 3);
        fault(0, "k2:2", 3);
        fault(0, "k2:02", 4);
        fault(0, "k2:0;", 4);
        fault(0, "k2:01;", 6);
        fault(0, "k2:0110", 5);
        fault(0, "k2:01,;", 6);
        fault(0, "k2:01,10,01", 10);
        fault(0, "k1:00,0", 7);
        fault(0, "k1:00,00;", 7);
        fault(0, "k3:;q", 4);
        fault(0, "k3:;p3", 5);
        fault(0, "k3:;p00", 6);
        fault(0, "k3:;p10", 6);
        fault(0, "k3:;p02q12", 10);
        fault(0, "k3:;p02q11", 9);
        fault(0, "k3:;p02q0p", 9);
        fault(0, "k3:;p02q0 ", 9);
        fault(0, "k3:;p012q012", 12);
        fault(0, "k3:;p;", 5);
        for (int i = 0; i < 5; i++) {
            fault(0, "ktsyd".charAt(i) + "1:;pq", 6);
        }
        String all = "00,01,02,03,10,11,12,13,20,21,22,23,30,31,32,33";
        fault(0, "k4:" + all + ";p0123q0123", 61);
        fault(0, "k4:" + all + ",33;p", 52);
    }

    private void faultInFormula() {
        fault(1, "x", 0);
        fault(1, "n", 0);
        fault(1, "(p)", 0);
        fault(1, "pp", 1);
        fault(1, "~p ", 2);
        fault(1, "N Mp", 1);
        fault(1, "&pqq", 3);
        fault(1, ">&|pq", 5);
        fault(1, "~~~~~~~~~~~~~~~p", 16);
        fault(1, "~~~~~~~~~~~~~~~~", 15);
        fault(1, "NNNNNNNNNNNNNN&", 14);
        fault(1, "MMMMMMMMMMMMM&", 14);
        fault(1, "&&&&&&&&", 7);
        fault(1, "&&&&&&&M", 8);
        fault(1, "&&&&&&&Mpppppppp", 16);
        fault(1, "&&&&&&&MM", 8);
        fault(1, "||||||||", 7);
        fault(1, ">p>p>p>p>p>p>p>", 14);
        fault(1, ">p>p>p>p>p>p>p~q", 16);
    }

    // Promise 5
    private void frame() {
        with("s3:01,22,10;p02q1", "", "count(6) = 0; count(7) = 1; about(0) = 2; about(1) = 3; about(2) = 3;"
            + " arrow(0, 1) = 1; arrow(2, 2) = 1; arrow(1, 0) = 1; arrow(1, 1) = 0; world(0, 2) = 1; world(1, 2) = 2;"
            + " world(2, 2) = 1; frame() = -103; count(7) = 1");
        for (int kind = 0; kind < 5; kind++) {
            with("ktsyd".charAt(kind) + "4:;pq", "", "about(0) = " + kind + "; about(1) = 4");
        }
        for (String text : new String[] {"k1:;p", "k1:00,;pq", "k1:;pq1", "k1:00,00;pq", "k1", "k1:;pq ", "p"}) {
            FrameBoard board = with("y2:00;p1q", "Np", "see(0, true) = 1; image() = 2");
            checks.write(board, text);
            checks.run(board, "frame() = -103; about(0) = 3; world(1, 2) = 1; count(5) = 1; count(7) = 1; count(6) = "
                + text.length() + "; restore() = 2");
        }
        FrameBoard board = with("y2:00,11;p1q0", "Np", "see(0, true) = 1");
        checks.readFrame(board, "k1:;pq");
        checks.run(board, "count(5) = 0; sorts(0) = 31; count(1) = 0; world(0, 2) = 0; add() = 1; world(1, 2) = 0;"
            + " world(1, 0) = 0; count(7) = 2; sign(0) = 78; count(2) = 2");
        with("k4:00,01,02,03,10,11,12,13,20,21,22,23,30,31,32,33;p0123q0123", "", "about(2) = 16; world(3, 2) = 3");
    }

    // Promise 6
    private void formula() {
        FrameBoard board = with("k2:01;p1q", ">Mp&q~N|pq", "count(6) = 0; count(8) = 1; count(2) = 10; part(2) = 2;"
            + " see(0, false) = 1; formula() = -103; count(8) = 1");
        for (String text : new String[] {"", ">p", "pp", "~", "k1:;pq", "p "}) {
            checks.write(board, text);
            checks.run(board, "formula() = -103; count(2) = 10; sign(0) = 62; count(8) = 1");
            checks.due("characters of " + text, checks.ask(board, "blank()"), text.length());
        }
        checks.readFormula(board, "q");
        checks.run(board, "count(2) = 1; sign(0) = 113; sign(1) = -101; count(8) = 2; count(5) = 1; about(2) = 1");
        with("", "~~~~~~~~~~~~~~~p", "count(2) = 16; sign(15) = 112");
        with("", "&&&&&&&Mpppppppq", "count(2) = 16; sign(15) = 113; sign(16) = -101");
    }

    // Promise 7
    private void about() {
        wrong(with("y3:01,10,22;p2q", "", "about(0) = 3; about(1) = 3; about(2) = 3; about(3) = 1; about(4) = 2;"
            + " about(5) = -102; draw(0, 1, false) = 2; about(3) = 0; about(2) = 2; about(4) = 3"), "about(*)", -102);
        checks.fresh("about(0) = -103; about(4) = -103; about(5) = -102; about(-1) = -102");
        with("t2:00,11;pq", "", "about(3) = 1; about(4) = 1; draw(1, 1, false) = 1; about(3) = 0");
        with("s3:00,11,22,01,12;pq", "", "about(3) = 0; draw(0, 2, true) = 6; about(3) = 1; draw(0, 0, false) = 5;"
            + " about(3) = 0");
        with("d2:01,10;pq", "", "about(3) = 1; draw(1, 0, false) = 1; about(3) = 0; be(0) = 4; about(3) = 1");
        with("k4:01,12,23;pq", "", "about(4) = 4");
        with("k4:01,12,23,30;pq", "", "about(4) = 1; mark(0, 2) = 0; about(4) = 4");
        with("k4:;p01q12", "", "about(4) = 4");
    }

    // Promise 8
    private void as() {
        int[][] types = {{0, -1, -1, -1, -1}, {1, 1, -1, -1, -1}, {2, 2, 2, -1, -1}, {3, -1, -1, 3, -1},
            {4, -1, -1, -1, 4}};
        for (int own = 0; own < 5; own++) {
            FrameBoard board = checks.with("ktsyd".charAt(own) + "2:01;pq", "");
            for (int kind = 0; kind < 5; kind++) {
                checks.run(board, "as(" + kind + ") = " + types[own][kind]);
            }
            checks.run(board, "as(5) = -102; as(-1) = -102; about(0) = " + own);
        }
        wrong(checks.fresh("as(4) = -103; as(0) = -103"), "as(*)", -102);
    }

    // Promise 9
    private void world() {
        FrameBoard board = with("k3:00,01,02,21;p02q2", ">pMq", "world(0, 0) = 3; world(1, 0) = 0; world(2, 0) = 1;"
            + " world(0, 1) = 1; world(1, 1) = 2; world(2, 1) = 1; world(0, 2) = 1; world(1, 2) = 0; world(2, 2) = 3;"
            + " world(0, 3) = 0; world(1, 3) = 1; world(2, 3) = 2; world(0, 4) = 0; world(1, 4) = 1; world(2, 4) = 2;"
            + " world(0, 5) = 1; world(1, 5) = 1; world(2, 5) = 0; world(3, 0) = -101; world(3, 6) = -101;"
            + " world(-1, 0) = -101; world(0, 6) = -102; world(0, -1) = -102");
        wrong(board, "world(*, 0)", -101);
        wrong(board, "world(*, *)", -101);
        wrong(board, "world(0, *)", -102);
        with("k2:;pq", "", "world(1, 3) = 0; world(1, 4) = -1; world(1, 5) = -1; world(2, 5) = -101");
        // Similar looks at the parts alone, bisimilar at the frame alone.
        with("k2:00;pq1", "p", "world(1, 4) = 0; world(1, 3) = 1");
        with("k3:01,02;p12q", "~~p", "world(2, 3) = 1; world(2, 4) = 1; world(0, 3) = 0");
        with("k3:01,12;pq", "Np", "world(1, 4) = 0; world(2, 4) = 2; world(1, 3) = 1");
        with("k4:01,10,23,32;p02q", "Mp", "world(2, 3) = 0; world(3, 3) = 1; world(2, 4) = 0; world(3, 4) = 1");
        with("k4:01,12,23;p3q", "", "world(0, 3) = 0; world(1, 3) = 1; world(2, 3) = 2");
        checks.fresh("world(0, 6) = -101; world(0, 5) = -101; world(-1, 9) = -101");
    }

    // Promise 10
    private void arrow() {
        FrameBoard board = with("k3:01,22;pq", "", "arrow(0, 1) = 1; arrow(1, 0) = 0; arrow(2, 2) = 1; arrow(0, 0) = 0;"
            + " arrow(3, 0) = -101; arrow(0, 3) = -101; arrow(-1, 0) = -101; arrow(0, -1) = -101");
        wrong(board, "arrow(*, 1)", -101);
        wrong(board, "arrow(0, *)", -101);
        checks.fresh("arrow(0, 0) = -101");
    }

    // Promise 11
    private void part() {
        FrameBoard board = with("k3:01,12,11;p02q2", ">&pq|~NpMq", "part(2) = 5; part(3) = 4; part(1) = 4;"
            + " part(7) = 5; part(6) = 4; part(5) = 3; part(9) = 4; part(8) = 2; part(4) = 3; part(0) = 3;"
            + " part(10) = -101; part(-1) = -101");
        wrong(board, "part(*)", -101);
        with("", "Np", "part(0) = -103; part(1) = -103; part(2) = -101; part(-1) = -101");
        with("k1:;pq", "", "part(0) = -101");
        with("k1:;pq", "NMp", "part(0) = 1; part(1) = 0; part(2) = 0");
        with("k4:00,11,22,33;p0123q", "Mp", "part(0) = 15; part(1) = 15");
    }

    // Promise 12
    private void sign() {
        FrameBoard board = with("", "~NM>&|pqpq", "sign(0) = 126; sign(1) = 78; sign(2) = 77; sign(3) = 62;"
            + " sign(4) = 38; sign(5) = 124; sign(6) = 112; sign(7) = 113; sign(9) = 113; sign(10) = -101");
        wrong(board, "sign(*)", -101);
        checks.fresh("sign(0) = -101");
    }

    // Promise 13
    private void draw() {
        FrameBoard board = with("k2:01;p0q1", "", "draw(0, 1, true) = -103; draw(1, 0, false) = -103;"
            + " draw(1, 0, true) = 2; draw(1, 1, true) = 3; arrow(1, 0) = 1; arrow(0, 0) = 0; draw(0, 1, false) = 2;"
            + " arrow(0, 1) = 0; count(1) = 2; draw(0, 1, false) = -103; draw(2, 0, true) = -101;"
            + " draw(0, 2, false) = -101; world(0, 2) = 1; world(1, 2) = 2");
        wrong(board, "draw(*, 0, true)", -101);
        wrong(board, "draw(0, *, false)", -101);
        checks.fresh("draw(0, 0, true) = -101; draw(0, 0, false) = -101");
        with("k4:;pq", "", "draw(3, 3, true) = 1; draw(3, 0, true) = 2; draw(0, 3, true) = 3; world(3, 0) = 2;"
            + " world(3, 1) = 2");
    }

    // Promise 14
    private void mark() {
        FrameBoard board = with("k2:01;p0q", "", "mark(0, 2) = 1; mark(0, 3) = 2; mark(0, 0) = 3; mark(0, 1) = 0;"
            + " mark(1, 3) = 0; world(0, 2) = 1; world(1, 2) = 3; mark(2, 0) = -101; mark(2, 4) = -101;"
            + " mark(0, 4) = -102; mark(0, -1) = -102; world(0, 2) = 1; count(1) = 1");
        wrong(board, "mark(*, 0)", -101);
        wrong(board, "mark(1, *)", -102);
        checks.fresh("mark(0, 0) = -101; mark(0, 4) = -101");
    }

    // Promise 15
    private void add() {
        with("t1:00;p0q0", "", "add() = 1; world(1, 0) = 0; world(1, 1) = 0; world(1, 2) = 0; add() = 2; add() = 3;"
            + " add() = -104; about(1) = 4; about(2) = 1; about(0) = 1; world(0, 2) = 3; arrow(0, 0) = 1");
        with("k4:33,30,03;p3q3", "", "add() = -104; take(3) = 3; add() = 3; world(3, 0) = 0; world(3, 1) = 0;"
            + " world(3, 2) = 0");
        checks.fresh("add() = -103");
    }

    // Promise 16
    private void take() {
        FrameBoard board = with("y4:01,12,23,30,31;p13q0", "", "take(1) = 3; about(0) = 3; about(2) = 2;"
            + " arrow(1, 2) = 1; arrow(2, 0) = 1; world(0, 2) = 2; world(1, 2) = 0; world(2, 2) = 1; take(3) = -101;"
            + " take(0) = 2; arrow(0, 1) = 1; about(2) = 1; world(1, 2) = 1; world(0, 2) = 0; take(1) = 1;"
            + " about(2) = 0; take(0) = -103; take(1) = -101; about(1) = 1");
        wrong(board, "take(*)", -101);
        checks.fresh("take(0) = -101");
    }

    // Promise 17
    private void be() {
        wrong(with("k2:01;p1q", "", "be(3) = 0; about(0) = 3; about(2) = 1; about(3) = 0; be(3) = 3; be(4) = 3;"
            + " be(1) = 4; be(2) = 1; be(5) = -102; be(-1) = -102; be(0) = 2; world(1, 2) = 1; arrow(0, 1) = 1"),
            "be(*)", -102);
        wrong(checks.fresh("be(0) = -103; be(4) = -103; be(5) = -102"), "be(*)", -102);
    }

    // Promise 18
    private void close() {
        checks.fresh("close() = -103");
        with("k3:01,12;pq", "", "close() = 0; about(2) = 2; be(1) = 0; close() = 3; arrow(2, 2) = 1; arrow(0, 2) = 0;"
            + " be(2) = 1; close() = 1; arrow(0, 2) = 1; close() = 0; be(3) = 2; close() = 3; arrow(2, 0) = 1");
        with("d3:01;p0q", "", "close() = 2; arrow(0, 0) = 0; arrow(1, 1) = 1; arrow(2, 2) = 1; world(0, 2) = 1");
        with("s4:30,02,21;pq", "", "close() = 7; about(2) = 10; arrow(3, 1) = 1; arrow(3, 2) = 1; arrow(0, 1) = 1;"
            + " arrow(1, 0) = 0");
        with("s4:01,12,23,30;pq", "", "close() = 12");
        with("y4:01,33;pq", "", "close() = 1; arrow(1, 0) = 1; close() = 0");
    }

    /** For all frames with three worlds, against a search through all frames with more arrows. */
    private void closeAddsAsFewAsPossible() {
        for (int kind = 0; kind < 5; kind++) {
            for (int number = 0; number < 512; number++) {
                FrameBoard board = checks.with(Checks.frameText(kind, 3, number), "");
                int least = 9;
                for (int more = number; more < 512; more++) {
                    if ((more & number) == number && Model.numbered(kind, 3, more, 0).fits(kind)) {
                        least = Math.min(least, Integer.bitCount(more) - Integer.bitCount(number));
                    }
                }
                String which = " of kind " + kind + ", arrow number " + number;
                checks.due("close()" + which, checks.ask(board, "close()"), least);
                checks.due("fits after close()" + which, checks.ask(board, "about(3)"), 1);
                checks.due("arrows kept" + which, arrowNumber(board) & number, number);
            }
        }
    }

    private int arrowNumber(FrameBoard board) {
        int number = 0;
        for (int bit = 0; bit < 9; bit++) {
            number += checks.ask(board, "arrow(" + bit / 3 + ", " + bit % 3 + ")") == 1 ? 1 << bit : 0;
        }
        return number;
    }

    // Promise 19
    private void shrink() {
        checks.fresh("shrink() = -103");
        with("y4:01,10,23,32;p02q", "", "shrink() = 2; about(2) = 2; arrow(0, 1) = 1; arrow(1, 0) = 1;"
            + " world(0, 2) = 1; world(1, 2) = 0; about(0) = 3; shrink() = 2");
        with("k4:01,12,23,30;p0123q", "", "shrink() = 1; arrow(0, 0) = 1; world(0, 2) = 1");
        // Worlds 1 and 2 are bisimilar; the arrow to 2 bends to 1, and the world 3 becomes 2.
        with("d4:02,31,13,23;p3q0", "", "about(4) = 3; shrink() = 3; arrow(0, 1) = 1; arrow(1, 2) = 1;"
            + " arrow(2, 1) = 1; about(2) = 3; world(2, 2) = 1; world(0, 2) = 2; about(0) = 4");
        with("k3:01,12;pq", "", "shrink() = 3; about(2) = 2");
        with("k2:;pq", "", "see(1, true) = 1; shrink() = 1; count(5) = 1; add() = 1; world(1, 2) = 0");
    }

    // Promise 20
    private void valid() {
        with("", "p", "valid() = -103");
        with("k1:;pq", "", "valid() = -103");
        with("k1:;p0q", "p", "world(0, 5) = 1; valid() = 0");
        with("k1:;p0q", "|p~p", "valid() = 1");
        with("k1:;p0q", "|p~q", "valid() = 0");
        with("k4:01;pq", "Np", "valid() = 0; draw(0, 1, false) = 0; valid() = 1");
        with("k4:;pq", "|p~p", "valid() = 1");
        with("k4:33;pq", ">Mqq", "valid() = 1; draw(2, 3, true) = 2; valid() = 0");
        with("k4:32;pq", ">Mpp", "valid() = 0; draw(3, 2, false) = 0; draw(3, 3, true) = 1; valid() = 1");
        // It takes q in all worlds but the last one, and p in none, to refute this one.
        with("k4:03;pq", ">MN&pqMq", "valid() = 0; draw(0, 3, false) = 0; valid() = 1");
    }

    // Promise 21
    private void fail() {
        FrameBoard board = with("k1:;pq", ">Npp", "fail(1, 0) = 0; fail(1, 1) = 0; fail(1, 2) = 0; fail(2, 0) = 0;"
            + " fail(3, 2) = 0; be(1) = 0; fail(1, 0) = -1; fail(3, 1) = -1; be(3) = 1; fail(2, 0) = 0; be(4) = 3;"
            + " fail(1, 0) = -1; fail(2, 0) = 5; fail(2, 1) = 1; fail(2, 2) = 1");
        checks.run(board, "count(9) = 12");
        with("k1:;pq", ">Npp", "be(4) = 0; fail(3, 0) = 73; fail(3, 1) = 1; fail(3, 2) = 1; fail(0, 0) = -102;"
            + " fail(4, 0) = -102; fail(1, -1) = -102; fail(1, 3) = -102");
        with("y1:;pq", ">NpNNp", "fail(1, 0) = -1; fail(2, 0) = 6; fail(2, 1) = 1; fail(2, 2) = 1");
        with("s1:;pq", ">MNpNMp", "fail(2, 0) = -1; fail(3, 0) = 279; fail(3, 1) = 2;"
            + " fail(3, 2) = 0");
        with("s1:;pq", ">MpNMp", "fail(2, 0) = 11; fail(2, 1) = 1; fail(2, 2) = 0; fail(3, 0) = 275");
        with("k1:;pq", ">q&~p~q", "fail(1, 1) = 2; fail(2, 1) = 4; fail(3, 1) = 8; fail(3, 2) = 0");
        with("k1:;pq", ">|pqN>pq", "fail(2, 0) = 1; fail(1, 0) = 1; fail(1, 1) = 1");
        wrong(with("k1:;pq", "p", "fail(1, 1) = 0"), "fail(*, 0)", -102);
        wrong(with("k1:;pq", "p", "fail(3, 1) = 0"), "fail(1, *)", -102);
        with("k1:;pq", "", "fail(1, 0) = -103; fail(4, 0) = -102; count(9) = 0");
        with("", "p", "fail(1, 0) = -103; fail(1, 3) = -102; count(9) = 0");
        with("k3:01,12;p1q", "p", "fail(2, 0) = 0; about(1) = 3; about(2) = 2; world(1, 2) = 1; part(0) = 2");
    }

    private void failAtMostTwelveTimes() {
        FrameBoard board = checks.with("k1:;pq", "|p~p");
        for (int times = 0; times < 12; times++) {
            checks.run(board, "fail(4, 0) = -102; fail(1, 0) = -1; count(9) = " + (times + 1));
        }
        checks.run(board, "fail(1, 0) = -103; fail(4, 0) = -102; count(9) = 12; tells(0) = 0");
        checks.readFrame(board, "k1:;pq");
        checks.readFormula(board, "p");
        checks.run(board, "fail(1, 0) = -103; count(9) = 12");
    }

    // Promise 22
    private void tells() {
        String[] defining = {">Npp", ">NpNNp", ">pNMp", "M|p~p", ">MpNMp"};
        for (int own = 0; own < 5; own++) {
            FrameBoard board = checks.with("", defining[own]);
            for (int law = 0; law < 5; law++) {
                checks.run(board, "tells(" + law + ") = " + (law == own ? 1 : 0));
            }
            checks.run(board, "count(10) = 5");
        }
        FrameBoard board = with("", ">MMpMp", "tells(1) = 1");
        wrong(board, "tells(*)", -102);
        for (int times = 1; times < 12; times++) {
            checks.run(board, "tells(5) = -102; tells(0) = 0; count(10) = " + (times + 1));
        }
        checks.run(board, "tells(1) = -103; tells(5) = -102; count(10) = 12; count(9) = 0");
        checks.readFormula(board, ">Npp");
        checks.run(board, "tells(0) = -103");
        checks.fresh("tells(0) = -103; tells(4) = -103; tells(5) = -102; count(10) = 0");
        with("", "|p~p", "tells(0) = 0; tells(4) = 0");
    }

    // Promise 23
    private void keeps() {
        with("k3:00,11,22;pq", "", "keeps(0) = 1; keeps(1) = 1; keeps(2) = 1; keeps(3) = 1; keeps(4) = 1;"
            + " draw(0, 1, true) = 4; keeps(0) = 1; keeps(1) = 1; keeps(2) = 0; keeps(3) = 1; keeps(4) = 0;"
            + " draw(1, 2, true) = 5; keeps(1) = 0; draw(2, 2, false) = 4; keeps(0) = 0; keeps(3) = 0");
        with("k2:01,10;pq", "", "keeps(0) = 0; keeps(1) = 0; keeps(2) = 1; keeps(3) = 1; keeps(4) = 0");
        with("k2:01,11;pq", "", "keeps(0) = 0; keeps(1) = 1; keeps(2) = 0; keeps(3) = 1; keeps(4) = 1");
        with("k4:;pq", "", "keeps(0) = 0; keeps(1) = 1; keeps(2) = 1; keeps(3) = 0; keeps(4) = 1");
        with("k4:01,02,11,22,33;pq", "", "keeps(4) = 0; draw(1, 2, true) = 6; keeps(4) = 0; draw(2, 1, true) = 7;"
            + " keeps(4) = 1");
        wrong(with("k1:;pq", "", "keeps(5) = -102; keeps(-1) = -102"), "keeps(*)", -102);
        checks.fresh("keeps(0) = -103; keeps(4) = -103; keeps(5) = -102");
    }

    // Promise 24
    private void see() {
        int[][] can = {{9, 22}, {25, 6}, {23, 8}, {27, 4}};
        for (int what = 0; what < 4; what++) {
            with("k1:;pq", "", "see(" + what + ", true) = 1; sorts(0) = " + can[what][0] + "; forget() = 1; see("
                + what + ", false) = 1; sorts(0) = " + can[what][1] + "; see(" + what + ", true) = 2; sorts(0) = 0");
        }
        FrameBoard board = with("k1:;pq", "", "see(0, true) = 1; see(0, true) = 2; see(1, true) = 3; see(4, true) = -102;"
            + " see(-1, false) = -102; count(5) = 3; see(3, true) = 4; see(3, true) = 5; see(3, true) = 6;"
            + " see(3, false) = -104; see(4, true) = -102; count(5) = 6; sorts(0) = 9");
        wrong(board, "see(*, true)", -102);
        checks.fresh("see(0, true) = -103; see(3, false) = -103; see(4, false) = -102; count(5) = 0");
    }

    // Promise 25
    private void forget() {
        with("k1:;pq", "", "see(0, true) = 1; see(0, false) = 2; sorts(0) = 0; forget() = 2; sorts(0) = 31;"
            + " count(5) = 0; forget() = 0; see(2, false) = 1; sorts(0) = 8");
        checks.fresh("forget() = 0");
    }

    // Promise 26
    private void sorts() {
        wrong(checks.fresh("sorts(0) = 31; sorts(1) = 0; sorts(2) = -102; sorts(-1) = -102"), "sorts(*)", -102);
        with("k1:;pq", "", "see(0, false) = 1; sorts(0) = 22; sorts(1) = 1; see(1, false) = 2; sorts(0) = 6;"
            + " sorts(1) = 3; see(3, true) = 3; sorts(0) = 2; sorts(1) = 0; see(3, false) = 4; sorts(0) = 0;"
            + " sorts(1) = -1; sorts(2) = -102");
        with("k1:;pq", "", "see(0, true) = 1; sorts(0) = 9; sorts(1) = 2; see(2, true) = 2; sorts(0) = 1");
        with("k1:;pq", "", "see(1, true) = 1; sorts(0) = 25; sorts(1) = 0; see(2, true) = 2; sorts(0) = 17;"
            + " sorts(1) = 0; see(3, false) = 3; sorts(0) = 0; sorts(1) = -1");
    }

    // Promise 27
    private void drawn() {
        FrameBoard board = with("k1:;pq", "p", "drawn(1, 0, 2) = 12345; drawn(1, 0, 0) = 0; drawn(1, 0, 1) = 0;"
            + " drawn(1, 2147483647, 2) = 1043980748; drawn(0, 1, 0) = -102; drawn(61, 1, 0) = -102;"
            + " drawn(1, -1, 0) = -102; drawn(1, 1, 3) = -102; drawn(1, 1, -1) = -102; world(0, 2) = 0");
        wrong(board, "drawn(*, 1, 0)", -102);
        wrong(board, "drawn(1, 1, *)", -102);
        // The numbers drawn from the state 2 on are 0, 1, 3, 2.
        checks.run(board, "drawn(1, 2, 2) = 59559187; drawn(1, 2, 0) = 0; drawn(2, 2, 2) = 1495354192;"
            + " drawn(2, 2, 0) = 1; drawn(3, 2, 0) = 2; drawn(4, 2, 0) = 2; drawn(4, 2, 1) = 2;"
            + " drawn(4, 2, 2) = 846338638");
        FrameBoard two = with("y2:;p0q1", "q", "drawn(2, 2, 0) = 2; drawn(2, 2, 1) = 1; drawn(1, 2, 0) = 0;"
            + " drawn(2, 2, 2) = 846338638; world(0, 2) = 1; world(1, 2) = 2; see(0, true) = 1; part(0) = 2");
        checks.readFormula(two, "p");
        checks.run(two, "drawn(2, 2, 0) = 2; drawn(2, 2, 1) = 0; drawn(1, 2, 0) = 1; drawn(1, 2, 1) = 0");
        checks.readFormula(two, "|q~q");
        checks.run(two, "drawn(60, 5, 0) = 120; drawn(60, 5, 1) = 60; drawn(1, 5, 1) = 1; drawn(1, 5, 0) = 2");
        with("k1:;pq", "", "drawn(1, 0, 0) = -103; drawn(0, 0, 0) = -102");
        with("", "p", "drawn(1, 0, 0) = -103; drawn(1, -1, 0) = -102; drawn(1, -2147483648, 0) = -102");
    }

    // Promise 28
    private void image() {
        checks.fresh("image() = -103; restore() = -103");
        with("y2:01;p1q", "", "see(0, true) = 1; image() = 2; draw(0, 1, false) = 0; add() = 2; see(0, false) = 2;"
            + " be(4) = 3; mark(0, 3) = 0; image() = 3; forget() = 2; take(0) = 2; restore() = 3; about(0) = 4;"
            + " about(2) = 0; world(0, 2) = 3; world(1, 2) = 1; count(5) = 2; sorts(0) = 0");
    }

    // Promise 29
    private void restore() {
        FrameBoard board = with("y2:01;p1q", "Np", "restore() = -103; see(0, true) = 1; image() = 2; see(0, false) = 2;"
            + " draw(1, 0, true) = 2; be(4) = 3; add() = 2; mark(1, 2) = 1; restore() = 2; about(0) = 3; about(2) = 1;"
            + " arrow(0, 1) = 1; world(1, 2) = 1; count(5) = 1; sorts(0) = 9; take(1) = 1; restore() = 2;"
            + " arrow(0, 1) = 1; forget() = 1; restore() = 2; count(5) = 1; add() = 2; world(2, 2) = 0");
        checks.readFormula(board, "Mq");
        checks.run(board, "letter(107) = 1; frame() = -103; restore() = 2; count(6) = 1; sign(0) = 77; blank() = 1");
        checks.run(board, "draw(0, 0, true) = 2; draw(0, 0, false) = 1; restore() = 2");
        checks.readFrame(board, "y2:01;p1q");
        checks.run(board, "restore() = -103; count(5) = 0; image() = 2; restore() = 2; count(7) = 2");
    }

    // Promise 30
    private void count() {
        FrameBoard board = with("k3:00,11,22,01;p2q", ">Npp", "see(2, true) = 1; letter(32) = 1; letter(33) = 2;"
            + " fail(1, 0) = 0; fail(1, 4) = -102; tells(0) = 1; tells(1) = 0; tells(9) = -102; count(0) = 3;"
            + " count(1) = 4; count(2) = 4; count(3) = 3; count(4) = 3; count(5) = 1; count(6) = 2; count(7) = 1;"
            + " count(8) = 1; count(9) = 1; count(10) = 2; count(11) = -102; count(-1) = -102; blank() = 2");
        wrong(board, "count(*)", -102);
        checks.readFrame(board, "k1:;p0q");
        checks.readFormula(board, "p");
        checks.run(board, "count(3) = 1; count(4) = 3; count(7) = 2; count(8) = 2; count(9) = 1; count(10) = 2");
        with("", "|p~p", "count(0) = 0; count(1) = 0; count(2) = 4; count(3) = 0; count(4) = 0; count(8) = 1");
        with("k3:;pq", "", "count(3) = 0; count(4) = 3");
    }

    private static long digestOf(long... numbers) {
        long h = 1481;
        for (long number : numbers) {
            h = 31 * h + number;
        }
        return h;
    }

    // Promise 31
    private void digest() {
        checks.due("digest() of a new object", new FrameBoard().digest(),
            digestOf(31, 0, 0, 0, 0, 0, 0, 0, 0, 0, 0, 0, 0));
        checks.due("digest() with a formula alone", with("", "Np", "letter(33) = 1").digest(),
            digestOf(78, 112, 31, 0, 33, 0, 0, 2, 0, 0, 0, 1, 0, 1, 0, 0));
        checks.due("digest() with a frame alone", with("y2:01;p1q1", "", "see(0, false) = 1").digest(),
            digestOf(3, 2, 1, 0, 2, 1, 0, 0, 0, -1, -1, 0, 1, 0, 1, 3, 1, -1, -1, 0, 0, 0, 1, 0, 0, 0,
                22, 1, 2, 1, 0, 0, 1, 1, 0, 1, 0, 0, 0));
        checks.due("digest() with both", with("k2:01;p1q", "Mp", "valid() = 0").digest(),
            digestOf(0, 2, 1, 1, 2, 1, 0, 0, 0, 0, 1, 0, 1, 0, 1, 1, 1, 1, 0, 0, 0, 0, 1, 0, 0, 0,
                0, 1, 2, 77, 112, 31, 0, 2, 1, 2, 1, 1, 0, 0, 1, 1, 0, 0));
        FrameBoard board = with("k2:01;p1q", "Mp", "count(9) = 0");
        checks.due("digest() twice", board.digest(), board.digest());
    }
}
