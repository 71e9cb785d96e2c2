import java.math.BigInteger;
import java.util.ArrayList;
import java.util.List;

/** Promises 20 to 31, sentence by sentence: what is asked, what is seen, and what is told of all. */
final class AnswerEdges extends Edges {
    /** For each thing, the set of kinds whose frames can contain it. */
    private static final int[] CAN = {1 + 8, 1 + 8 + 16, 1 + 2 + 4 + 16, 1 + 2 + 8 + 16};

    AnswerEdges(Checks checks, Document document) {
        super(checks, document);
    }

    void all() {
        valid();
        failFindsTheFirst();
        failAnswers();
        failTwelveTimes();
        tells();
        keeps();
        see();
        forget();
        sorts();
        drawn();
        drawnNumbers();
        image();
        restore();
        countsOfTheFrame();
        countsOfTheObject();
        digest();
        digestParts();
    }

    private void valid() {
        promise(20);
        says("Tells whether the formula is valid in the frame.");
        with("k1:;p0q", "p", "part(0) = 1; valid() = 0");
        with("k1:;p0q0", "Np", "valid() = 1; draw(0, 0, true) = 1; valid() = 0");
        with("k4:;pq", "~p", "part(0) = 15; valid() = 0");
        says("Returns 1 if it is, 0 if not");
        for (int worlds = 1; worlds <= 4; worlds++) {
            with("k" + worlds + ":;pq", "|p~p", "valid() = 1");
            with("k" + worlds + ":;pq", "|p~q", "valid() = 0");
            with("k" + worlds + ":;pq", "NMq", "valid() = 1");
            with("k" + worlds + ":" + (worlds - 1) + (worlds - 1) + ";pq", "Nq", "valid() = 0");
        }
    }

    private void failFindsTheFirst() {
        promise(21);
        String first = "Finds the first countermodel: of all frames of the kind of the frame that fit it and have a"
            + " certain number of worlds, with all valuations, and all worlds in which the formula does not hold,";
        says(first + " the one with the lowest arrow number");
        failsAt(0, "p", 1, 0, 0, 0);
        failsAt(0, "~Mp", 1, 1, 1, 0);
        failsAt(0, "p", 3, 0, 0, 0);
        failsAt(1, "p", 2, 9, 0, 0);
        failsAt(2, "p", 3, 273, 0, 0);
        failsAt(3, "~Mp", 3, 1, 1, 0);
        failsAt(4, "p", 3, 73, 0, 0);
        failsAt(0, "||~qNpMN>NMpp", 2, 15, 5, 0);
        failsAt(1, "M>MpNNp", 2, 15, 1, 0);
        failsAt(0, "N>p>NM~p~M&~MMpp", 3, 121, 6, 1);
        failsAt(1, "|MNM&Npp>~NpNM~p", 3, 375, 6, 0);
        failsAt(2, ">pMN|q>MqMp", 3, 381, 10, 1);
        failsAt(3, ">~pN>NM&MN&pMppp", 3, 95, 1, 1);
        says("of several, the one with the lowest valuation number");
        failsAt(0, "q", 1, 0, 0, 0);
        failsAt(0, "~q", 1, 0, 2, 0);
        failsAt(1, "~&pq", 1, 1, 3, 0);
        failsAt(0, "~p", 2, 0, 1, 0);
        failsAt(0, "~q", 2, 0, 4, 0);
        failsAt(0, "~q", 3, 0, 8, 0);
        failsAt(0, "~&pq", 3, 0, 9, 0);
        failsAt(0, "N>N&pqNMp", 2, 3, 15, 0);
        failsAt(1, ">p|~N&NMNNpqNp", 3, 311, 61, 0);
        failsAt(3, "N|p|>NM&NqMpMpp", 3, 79, 58, 0);
        says("of several, the lowest world");
        failsAt(0, "Mp", 3, 0, 0, 0);
        failsAt(4, ">Npp", 3, 73, 1, 1);
        failsAt(0, ">Mq>|p~qM|Np~Mq", 2, 5, 4, 1);
        failsAt(0, "N>MMp>~pMM~&pp", 3, 82, 2, 2);
        failsAt(1, "~~M||~~p~MMpMNp", 3, 347, 2, 2);
        failsAt(3, ">M>~pMp>~pMp", 3, 78, 2, 2);
        failsAt(4, "||pNq|>M~M~qMpq", 3, 74, 16, 2);
    }

    private void failsAt(int kind, String formula, int worlds, int arrows, int valuation, int world) {
        with(Checks.frameText(kind, 4, 0), formula, "fail(" + worlds + ", 0) = " + arrows + "; fail(" + worlds
            + ", 1) = " + valuation + "; fail(" + worlds + ", 2) = " + world);
    }

    private void failAnswers() {
        promise(21);
        says("`worlds`: the number of worlds, 1 to 3");
        beyond(with("t4:;pq", "p", "fail(1, 0) = 1; fail(2, 0) = 9; fail(3, 0) = 273; fail(0, 0) = -102;"
            + " fail(4, 0) = -102"), "fail(*, 0)", 1, 3, OUTSIDE);
        says("`what`: 0: its arrow number");
        with("d1:;pq", "p", "fail(1, 0) = 1; fail(2, 0) = 5; fail(3, 0) = 73");
        says("1: its valuation number");
        with("k1:;pq", "~q", "fail(1, 1) = 2; fail(2, 1) = 4; fail(3, 1) = 8");
        says("2: the world");
        with("k1:;pq", "p", "fail(1, 2) = 0; fail(3, 2) = 0");
        with("k1:;pq", "N>MMp>~pMM~&pp", "fail(3, 2) = 2");
        beyond(with("k1:;pq", "~p", "fail(1, 0) = 0; fail(1, 2) = 0; fail(1, 3) = -102"), "fail(1, *)", 0, 2, OUTSIDE);
        says("Returns the value asked for");
        with("d1:;pq", ">Npp", "fail(3, 0) = 73; fail(3, 1) = 1; fail(3, 2) = 1; fail(2, 0) = 5; fail(2, 1) = 1;"
            + " fail(2, 2) = 1");
        says("NONE if there is none");
        for (int worlds = 1; worlds <= 3; worlds++) {
            with("k1:;pq", "|p~p", "fail(" + worlds + ", 0) = -1; fail(" + worlds + ", 1) = -1; fail(" + worlds
                + ", 2) = -1");
        }
        with("t1:;pq", ">Npp", "fail(3, 0) = -1; be(2) = 1; fail(3, 0) = -1; be(4) = 2; fail(3, 0) = 73; fail(1, 0) = -1;"
            + " be(3) = 4; fail(1, 0) = 0");
    }

    private void failTwelveTimes() {
        promise(21);
        says("if this method has been called 12 times without an error already (also with the result NONE)");
        for (String formula : new String[] {"p", "|p~p"}) {
            FrameBoard board = with("", formula, "fail(1, 0) = -103; fail(0, 0) = -102; count(9) = 0");
            checks.readFrame(board, "k1:;pq");
            for (int times = 1; times <= 12; times++) {
                due(board, "fail(" + (times % 3 + 1) + ", " + times % 2 + ")", formula.equals("p") ? 0 : -1);
                checks.run(board, "fail(0, 0) = -102; fail(4, 0) = -102; fail(1, 3) = -102; count(9) = " + times);
            }
            checks.run(board, "fail(1, 0) = -103; fail(3, 2) = -103; fail(0, 0) = -102; count(9) = 12; image() = 1;"
                + " restore() = 1; fail(1, 0) = -103; tells(0) = 0; count(10) = 1");
            checks.readFrame(board, "t2:;pq");
            checks.readFormula(board, "q");
            checks.run(board, "fail(1, 0) = -103; count(9) = 12");
        }
    }

    private void tells() {
        String[] defining = {">Npp", ">NpNNp", ">MNpp", "M>pp", ">MpNMp"};
        promise(22);
        for (int own = 0; own < 5; own++) {
            FrameBoard board = checks.with("", defining[own]);
            for (int law = 0; law < 5; law++) {
                says("Tells whether the formula defines a property of frames.");
                due(board, "tells(" + law + ")", law == own ? 1 : 0);
            }
            says("Returns 1 if it does, 0 if not");
            checks.run(board, "tells(" + own + ") = 1; tells(" + (own + 1) % 5 + ") = 0");
        }
        says("`law`: the property, 0 to 4");
        beyond(with("", ">Npp", "tells(0) = 1; tells(4) = 0; tells(5) = -102; tells(-1) = -102"), "tells(*)", 0, 4,
            OUTSIDE);
        says("STATE if there is no formula, or if this method has been called 12 times without an error already");
        FrameBoard board = with("k1:;pq", "", "tells(0) = -103; tells(5) = -102; count(10) = 0");
        checks.readFormula(board, ">Npp");
        for (int times = 1; times <= 12; times++) {
            due(board, "tells(" + times % 5 + ")", times % 5 == 0 ? 1 : 0);
            checks.run(board, "tells(5) = -102; tells(-1) = -102; count(10) = " + times);
        }
        checks.run(board, "tells(0) = -103; tells(4) = -103; tells(5) = -102; count(10) = 12; fail(1, 0) = 0");
        with("k1:;pq", ">Npp", "count(9) = 0" + "; fail(1, 0) = 0".repeat(12) + "; tells(0) = 1".repeat(12)
            + "; tells(0) = -103; count(9) = 12; count(10) = 12");
        checks.readFormula(board, "p");
        checks.readFrame(board, "k1:;pq");
        checks.run(board, "tells(0) = -103; count(10) = 12; count(9) = 1");
    }

    private void keeps() {
        promise(23);
        says("Tells whether the frame has a property.");
        with("d2:00,01;pq", "", "keeps(0) = 0; keeps(1) = 1; keeps(2) = 0; keeps(3) = 0; keeps(4) = 0");
        with("k3:00,11,22,01,10,12,21;pq", "", "keeps(0) = 1; keeps(1) = 0; keeps(2) = 1; keeps(3) = 1; keeps(4) = 0");
        says("`law`: the property, 0 to 4");
        beyond(with("k1:;pq", "", "keeps(0) = 0; keeps(4) = 1; keeps(5) = -102; keeps(-1) = -102"), "keeps(*)", 0, 4,
            OUTSIDE);
        says("Returns 1 if it has, 0 if not");
        for (int law = 0; law < 5; law++) {
            with(LONGEST_FRAME, "", "keeps(" + law + ") = 1");
            with("k1:;pq", "", "keeps(" + law + ") = " + (law == 0 || law == 3 ? 0 : 1));
            with("k4:00,11,22,33,03,32;pq", "", "keeps(" + law + ") = " + (law == 0 || law == 3 ? 1 : 0));
        }
    }

    private void see() {
        promise(24);
        says("Adds an observation.");
        with("k1:;pq", "", "see(0, false) = 1; count(5) = 1; sorts(0) = 22; see(2, false) = 2; sorts(0) = 0");
        says("`what`: the thing, 0 to 3");
        beyond(with("k1:;pq", "", "see(0, true) = 1; sorts(0) = 9; see(3, true) = 2; sorts(0) = 9; see(4, true) = -102;"
            + " see(-1, true) = -102"), "see(*, false)", 0, 3, OUTSIDE);
        says("`can`: true if frames of the unknown kind can contain it, false if they cannot");
        for (int what = 0; what < 4; what++) {
            with("k1:;pq", "", "see(" + what + ", true) = 1; sorts(0) = " + CAN[what]);
            with("k1:;pq", "", "see(" + what + ", false) = 1; sorts(0) = " + (31 - CAN[what]));
        }
        says("Returns how many observations there are then");
        with("k1:;pq", "", "see(0, true) = 1; see(0, true) = 2; see(0, false) = 3; see(3, true) = 4; see(2, false) = 5;"
            + " see(1, true) = 6");
        says("FULL if there are 6 observations already");
        with("k1:;pq", "", "see(0, true) = 1; see(0, true) = 2; see(0, true) = 3; see(0, true) = 4; see(0, true) = 5;"
            + " see(0, true) = 6; see(0, true) = -104; see(0, false) = -104; sorts(0) = 9; count(5) = 6; forget() = 6;"
            + " see(0, false) = 1; sorts(0) = 22");
    }

    private void forget() {
        promise(25);
        says("Removes all observations.");
        with("k1:;pq", "", "see(0, true) = 1; see(0, false) = 2; sorts(0) = 0; sorts(1) = -1; forget() = 2; count(5) = 0;"
            + " sorts(0) = 31; sorts(1) = 0");
        says("Returns how many there were.");
        checks.fresh("forget() = 0");
        with("k1:;pq", "", "forget() = 0; see(0, true) = 1; forget() = 1; forget() = 0; see(0, true) = 1;"
            + " see(1, true) = 2; see(1, true) = 3; see(1, true) = 4; see(1, true) = 5; see(1, true) = 6;"
            + " see(1, true) = -104; forget() = 6; forget() = 0");
    }

    /** Each thing is not seen, seen as possible, or seen as impossible. */
    private void sorts() {
        promise(26);
        for (int choice = 0; choice < 81; choice++) {
            FrameBoard board = with("k1:;pq", "", "forget() = 0");
            int possible = 31;
            int rest = choice;
            for (int thing = 0; thing < 4; thing++) {
                if (rest % 3 > 0) {
                    checks.ask(board, "see(" + thing + ", " + (rest % 3 == 1) + ")");
                    possible &= rest % 3 == 1 ? CAN[thing] : ~CAN[thing];
                }
                rest /= 3;
            }
            says("Tells about the unknown kind.");
            due(board, "sorts(0)", possible);
            due(board, "sorts(1)", possible == 0 ? -1 : bestThing(possible));
        }
        says("`what`: 0: the set of possible kinds");
        checks.fresh("sorts(0) = 31");
        with("k1:;pq", "", "sorts(0) = 31; see(3, false) = 1; sorts(0) = 4; see(3, true) = 2; sorts(0) = 0");
        says("1: the thing, 0 to 3, about which to ask next, so that, whatever the answer is, the number of kinds that"
            + " are still possible is, at worst, as small as possible");
        with("k1:;pq", "", "see(0, true) = 1; sorts(1) = 2");
        with("k1:;pq", "", "see(0, false) = 1; sorts(0) = 22; sorts(1) = 1; see(1, false) = 2; sorts(1) = 3");
        with("k1:;pq", "", "see(2, true) = 1; sorts(0) = 23; sorts(1) = 1");
        says("of several, the lowest one");
        checks.fresh("sorts(1) = 0");
        with("k1:;pq", "", "see(3, false) = 1; sorts(0) = 4; sorts(1) = 0");
        with("k1:;pq", "", "see(1, true) = 1; sorts(0) = 25; sorts(1) = 0");
        says("Returns the value asked for");
        with("k1:;pq", "", "see(0, false) = 1; sorts(0) = 22; sorts(1) = 1");
        says("NONE if what is 1 and no kind is possible");
        with("k1:;pq", "", "see(0, true) = 1; see(0, false) = 2; sorts(0) = 0; sorts(1) = -1; forget() = 2; sorts(1) = 0");
        says("OUTSIDE if what is not 0 or 1");
        beyond(checks.fresh("sorts(0) = 31; sorts(1) = 0; sorts(2) = -102; sorts(-1) = -102"), "sorts(*)", 0, 1, OUTSIDE);
    }

    private static int bestThing(int possible) {
        int best = 3;
        for (int thing = 2; thing >= 0; thing--) {
            best = worstLeft(possible, thing) <= worstLeft(possible, best) ? thing : best;
        }
        return best;
    }

    private static int worstLeft(int possible, int thing) {
        return Math.max(Integer.bitCount(possible & CAN[thing]), Integer.bitCount(possible & ~CAN[thing]));
    }

    private void drawn() {
        promise(27);
        says("Evaluates the formula in the frame under random valuations.");
        with("k1:00;p0q0", "&pMq", "part(0) = 1; drawn(4, 2, 0) = 1; drawn(4, 2, 1) = 1; drawn(2, 2, 0) = 0;"
            + " drawn(3, 2, 0) = 1; part(0) = 1; drawn(2, 2, 1) = 0");
        for (int worlds = 1; worlds <= 4; worlds++) {
            with("k" + worlds + ":;pq", "|p~p", "fail(3, 0) = -1; drawn(60, 3, 0) = " + 60 * worlds
                + "; drawn(60, 3, 1) = 60; drawn(1, 3, 0) = " + worlds);
            with("k" + worlds + ":;p0q", "&p~p", "fail(3, 0) = 0; part(1) = 1; drawn(60, 3, 0) = 0; drawn(60, 3, 1) = 0");
        }
        says("Each time, for each world in ascending order, a random number less than 4 is drawn");
        // The numbers drawn from the state 2 on are 0, 1, 3, 2; only in the world with the arrow can the formula hold.
        with("k2:00;pq", "Mp", "drawn(1, 2, 0) = 0; drawn(2, 2, 0) = 1; drawn(2, 2, 1) = 0");
        with("k2:11;pq", "Mp", "drawn(1, 2, 0) = 1; drawn(2, 2, 0) = 1; drawn(2, 2, 1) = 0");
        with("k4:00;pq", "|MpMq", "drawn(1, 2, 0) = 0");
        with("k4:11;pq", "&Mp~Mq", "drawn(1, 2, 0) = 1");
        with("k4:22;pq", "&MpMq", "drawn(1, 2, 0) = 1");
        with("k4:33;pq", "&M~pMq", "drawn(1, 2, 0) = 1");
        says("Nothing changes.");
        FrameBoard board = with("k2:01;p1q", "|p~p", "see(1, true) = 1; image() = 2");
        long before = checks.ask(board, "digest()");
        checks.run(board, "drawn(60, 9, 0) = 120; drawn(1, 0, 2) = 1406932606; world(0, 2) = 0; world(1, 2) = 1;"
            + " part(0) = 3; part(1) = 2; drawn(60, 9, 0) = 120; digest() = " + before);
        checks.run(board, "restore() = 2; count(5) = 1; world(1, 2) = 1; digest() = " + before);
        says("`times`: how often, 1 to 60");
        beyond(with("k1:;pq", "|p~p", "drawn(1, 0, 1) = 1; drawn(60, 0, 1) = 60; drawn(0, 0, 1) = -102;"
            + " drawn(61, 0, 1) = -102; drawn(59, 0, 1) = 59"), "drawn(*, 0, 1)", 1, 60, OUTSIDE);
        says("`seed`: the state x at the beginning, 0 or more");
        with("k1:;pq", "p", "drawn(1, 0, 2) = 12345; drawn(1, 1, 2) = 1103527590; drawn(1, 2147483647, 2) = 1043980748;"
            + " drawn(1, -1, 2) = -102; drawn(1, -2147483648, 2) = -102; drawn(1, -2147483647, 2) = -102");
        says("OUTSIDE if an argument is out of range");
        beyond(with("k1:;pq", "p", "drawn(1, 0, 0) = 0; drawn(1, 0, 2) = 12345; drawn(1, 0, 3) = -102"),
            "drawn(1, 0, *)", 0, 2, OUTSIDE);
    }

    /** The smallest and the largest state at the beginning, once and sixty times, in frames of all sizes. */
    private void drawnNumbers() {
        promise(27);
        for (int seed : new int[] {0, 1, 2, 65535, 65536, 1 << 30, Integer.MAX_VALUE - 1, Integer.MAX_VALUE}) {
            for (int times : new int[] {1, 2, 59, 60}) {
                for (int worlds = 1; worlds <= 4; worlds++) {
                    drawnNumbers(times, seed, worlds);
                }
            }
        }
    }

    private void drawnNumbers(int times, int seed, int worlds) {
        long x = seed;
        int[] held = new int[2];
        int[] whole = new int[2];
        for (int time = 0; time < times; time++) {
            int everywhere = 3;
            for (int world = 0; world < worlds; world++) {
                x = nextState(x);
                int number = (int) (x / 65536 % 4);
                everywhere &= number;
                held[0] += number % 2;
                held[1] += number / 2;
            }
            whole[0] += everywhere % 2;
            whole[1] += everywhere / 2;
        }
        String call = "drawn(" + times + ", " + seed + ", ";
        for (int letter = 0; letter < 2; letter++) {
            FrameBoard board = checks.with(Checks.frameText(0, worlds, 1), letter == 0 ? "p" : "q");
            says("p holds in the world if its bit 0 is 1, and q if its bit 1 is 1.");
            due(board, call + "0)", held[letter]);
            says("Each time, for each world in ascending order, a random number less than 4 is drawn");
            due(board, call + "1)", whole[letter]);
            says("`what`: 0: in how many worlds the formula holds, added up over all times");
            due(board, call + "0)", held[letter]);
            says("1: how often it holds in all worlds");
            due(board, call + "1)", whole[letter]);
            says("2: the state x at the end");
            due(board, call + "2)", x);
            says("Returns the value asked for");
            checks.run(board, call + "0) = " + held[letter] + "; " + call + "1) = " + whole[letter] + "; " + call
                + "2) = " + x);
        }
    }

    private void image() {
        promise(28);
        says("Saves the frame and the observations.");
        with("y4:01,33;p02q2", "|pq", "see(1, true) = 1; see(2, false) = 2; image() = 4; forget() = 2; be(0) = 3;"
            + " draw(0, 1, false) = 1; mark(0, 2) = 1; mark(2, 0) = 3; take(3) = 3; restore() = 4; about(0) = 3;"
            + " about(1) = 4; about(2) = 2; arrow(0, 1) = 1; arrow(3, 3) = 1; part(1) = 5; part(2) = 4; count(5) = 2;"
            + " sorts(0) = 8");
        FrameBoard board = with("k1:;pq", "p", "image() = 1; letter(113) = 1; fail(1, 0) = 0; tells(0) = 0; restore() = 1;"
            + " count(6) = 1; count(9) = 1; count(10) = 1; formula() = 1; restore() = 1; sign(0) = 113; count(8) = 2");
        due(board, "count(7)", 1);
        says("There is one image");
        with("k1:;pq", "", "image() = 1; add() = 1; image() = 2; restore() = 2; restore() = 2; take(0) = 1; restore() = 2");
        says("an older one is overwritten.");
        with("k1:;pq", "", "see(0, true) = 1; image() = 1; forget() = 1; add() = 1; mark(1, 1) = 0; be(4) = 0; image() = 2;"
            + " add() = 2; see(2, true) = 1; restore() = 2; about(0) = 4; count(5) = 0; sorts(0) = 31; world(1, 2) = 1");
        says("Returns the number of worlds");
        with("k1:;pq", "", "image() = 1; add() = 1; image() = 2; add() = 2; image() = 3; add() = 3; image() = 4");
    }

    private void restore() {
        promise(29);
        says("Restores what image() saved.");
        with("k1:;pq", "", "image() = 1; see(0, true) = 1; draw(0, 0, true) = 1; mark(0, 3) = 0; be(4) = 0; add() = 1;"
            + " restore() = 1; about(0) = 0; about(2) = 0; world(0, 2) = 0; count(5) = 0; sorts(0) = 31");
        with(LONGEST_FRAME, "", "see(0, true) = 1; see(0, true) = 2; see(0, true) = 3; see(0, true) = 4; see(0, true) = 5;"
            + " see(0, true) = 6; image() = 4; forget() = 6; shrink() = 1; mark(0, 0) = 3; restore() = 4; about(2) = 16;"
            + " count(5) = 6; sorts(0) = 9; see(1, true) = -104; world(0, 2) = 3; world(3, 2) = 3; add() = -104");
        says("The image stays.");
        with("k2:01;pq", "", "see(3, true) = 1; image() = 2; restore() = 2; draw(0, 1, false) = 0; restore() = 2;"
            + " arrow(0, 1) = 1; see(0, true) = 2; be(3) = 0; restore() = 2; count(5) = 1; about(0) = 0; mark(1, 3) = 0;"
            + " restore() = 2; world(1, 2) = 0");
        says("Returns the number of worlds");
        for (int worlds = 1; worlds <= 4; worlds++) {
            with("k" + worlds + ":;pq", "", "image() = " + worlds + "; restore() = " + worlds);
        }
        with("k1:;pq", "", "add() = 1; image() = 2; add() = 2; add() = 3; restore() = 2; count(0) = 2");
        says("STATE if nothing has been saved, or if frame() has read a frame since (even from the same text)");
        FrameBoard board = with("k2:01;pq", "", "restore() = -103; image() = 2; restore() = 2; letter(107) = 1;"
            + " frame() = -103; restore() = 2; blank() = 1");
        checks.readFrame(board, "k2:01;pq");
        checks.run(board, "restore() = -103; restore() = -103; draw(1, 1, true) = 2; image() = 2; draw(0, 0, true) = 3;"
            + " restore() = 2; count(1) = 2");
        checks.readFrame(board, "y1:;pq");
        checks.run(board, "restore() = -103; about(0) = 3; image() = 1; restore() = 1");
    }

    private void countsOfTheFrame() {
        promise(30);
        says("`what`: 0: worlds");
        checks.fresh("count(0) = 0");
        with("k1:;pq", "", "count(0) = 1; add() = 1; count(0) = 2; add() = 2; add() = 3; count(0) = 4");
        says("1: arrows");
        checks.fresh("count(1) = 0");
        with(LONGEST_FRAME, "", "count(1) = 16; take(2) = 3; count(1) = 9; shrink() = 1; count(1) = 1");
        says("2: signs of the formula");
        checks.fresh("count(2) = 0");
        with("", "q", "count(2) = 1");
        with("", "~~~~~~~~~~~~~~~p", "count(2) = 16");
        says("3: worlds in which the formula holds (0 if there is no frame or no formula)");
        checks.fresh("count(3) = 0");
        with("", "|p~p", "count(3) = 0");
        with("k4:;p0123q", "", "count(3) = 0");
        with("k4:;p0123q", "p", "count(3) = 4; mark(3, 0) = 1; count(3) = 3");
        with("k4:;pq", "p", "count(3) = 0; mark(3, 1) = 0; count(3) = 1");
        says("4: how many of the properties 0 to 4 the frame has (0 if there is no frame)");
        checks.fresh("count(4) = 0");
        with(LONGEST_FRAME, "", "count(4) = 5");
        with("k4:;pq", "", "count(4) = 3");
        with("k3:01,12;pq", "", "count(4) = 0");
        with("k2:00,01;pq", "", "count(4) = 1");
        says("5: observations");
        checks.fresh("count(5) = 0");
        with("k1:;pq", "", "count(5) = 0; see(0, true) = 1; count(5) = 1; see(0, true) = 2; see(0, true) = 3;"
            + " see(0, true) = 4; see(0, true) = 5; see(0, true) = 6; see(0, true) = -104; count(5) = 6");
        says("6: characters on the page");
        checks.fresh("count(6) = 0; letter(32) = 1; count(6) = 1");
        checks.run(page("x".repeat(66)), "count(6) = 66; letter(120) = -104; count(6) = 66");
    }

    private void countsOfTheObject() {
        promise(30);
        says("7: how often a frame has been read");
        FrameBoard board = checks.fresh("count(7) = 0; frame() = -103; count(7) = 0");
        for (int times = 1; times <= 30; times++) {
            checks.readFrame(board, "k1:;pq");
            checks.run(board, "frame() = -103; image() = 1; restore() = 1; count(7) = " + times);
        }
        says("8: how often a formula has been read");
        board = checks.fresh("count(8) = 0; formula() = -103; count(8) = 0");
        for (int times = 1; times <= 60; times++) {
            checks.readFormula(board, "p");
            checks.run(board, "formula() = -103; count(8) = " + times);
        }
        board = new FrameBoard();
        for (int times = 1; times <= 255; times++) {
            checks.readFormula(board, "p");
        }
        checks.run(board, "count(8) = 255; digest() = " + checksum(112, 31, 0, 0, 0, 1, 0, 0, 0, 0, 0, 255, 0, 0));
        says("9: how often fail() has been called without an error");
        board = with("k1:;pq", "p", "count(9) = 0; fail(0, 0) = -102; count(9) = 0");
        for (int times = 1; times <= 12; times++) {
            checks.run(board, "fail(1, 0) = 0; count(9) = " + times);
        }
        checks.run(board, "fail(1, 0) = -103; count(9) = 12; count(10) = 0");
        says("10: how often tells() has been called without an error");
        board = with("", "p", "count(10) = 0; tells(5) = -102; count(10) = 0");
        for (int times = 1; times <= 12; times++) {
            checks.run(board, "tells(0) = 0; count(10) = " + times);
        }
        checks.run(board, "tells(0) = -103; count(10) = 12; count(9) = 0");
        says("Returns one of several numbers.");
        board = with("k2:00,01,11,10;p1q", ">~pq", "letter(32) = 1; letter(32) = 2; letter(32) = 3; see(0, true) = 1;"
            + " see(0, true) = 2; tells(0) = 0; tells(0) = 0");
        checks.run(board, "count(0) = 2; count(1) = 4; count(2) = 4; count(3) = 1; count(4) = 5; count(5) = 2; count(6) = 3;"
            + " count(7) = 1; count(8) = 1; count(9) = 0; count(10) = 2");
        says("Returns the number");
        checks.run(board, "count(0) = 2; count(10) = 2");
        says("OUTSIDE if what is not 0 to 10");
        beyond(board, "count(*)", 0, 10, OUTSIDE);
        beyond(checks.fresh("count(0) = 0; count(10) = 0; count(11) = -102; count(-1) = -102"), "count(*)", 0, 10, OUTSIDE);
    }

    private void digest() {
        promise(31);
        says("It begins with h = 1481.");
        due(new FrameBoard(), "digest()", checksum(31, 0, 0, 0, 0, 0, 0, 0, 0, 0, 0, 0, 0));
        says("For each of the following numbers, in this order, h becomes 31 * h + (the number), in long arithmetic with"
            + " overflow:");
        for (int characters = 0; characters <= 66; characters++) {
            long[] numbers = new long[13 + characters];
            numbers[0] = 31;
            for (int i = 0; i < characters; i++) {
                numbers[2 + i] = 126 - i;
            }
            numbers[2 + characters + 6] = characters;
            FrameBoard board = new FrameBoard();
            for (int i = 0; i < characters; i++) {
                due(board, "letter(" + (126 - i) + ")", i + 1);
            }
            boolean isBeyond = wholeChecksum(numbers).compareTo(BigInteger.valueOf(Long.MAX_VALUE)) > 0;
            checks.due("beyond long with " + characters, isBeyond ? 1 : 0, 1);
            due(board, "digest()", checksum(numbers));
        }
        says("Returns a checksum.");
        FrameBoard board = with(LONGEST_FRAME, "&&&&&&&Mpppppppq", "see(1, false) = 1; fail(3, 0) = 0; image() = 4");
        long before = checks.ask(board, "digest()");
        due(board, "digest()", before);
        checks.run(board, "draw(1, 2, false) = 15; restore() = 4");
        due(board, "digest()", before);
        says("Returns h.");
        due(with("", "q", "count(2) = 1"), "digest()", checksum(113, 31, 0, 0, 0, 1, 0, 0, 0, 0, 0, 1, 0, 0));
    }

    private void digestParts() {
        promise(31);
        long[] ofFrame = {4, 2, 2, 1, 2};
        long[] ofWorlds = {1, 1, 1, 0, -1, -1, 0, 1, 1, 1, 2, 1, -1, -1, 1, 0};
        long[] ofWorldsThen = {1, 1, 1, 0, 0, 1, 0, 1, 1, 1, 2, 1, 1, 0, 1, 0};
        long[] laws = {0, 0, 1, 1, 0};
        String frame = "d2:01,10;p0q1";
        long[] alone = joined(ofFrame, ofWorlds, laws, new long[] {31, 0, 33, 2, 2, 0, 0, 2, 0, 1, 1, 0, 0, 0});
        long[] both = joined(ofFrame, ofWorldsThen, laws, new long[] {0, 1, 2, 1}, new long[] {62, 113, 112},
            new long[] {22, 1, 126, 32, 2, 2, 3, 1, 2, 1, 2, 1, 1, 1, 2});
        long[] oneWay = {0, 2, 1, 1, 2, 1, 0, 0, 0, 0, 1, 0, 1, 0, 1, 1, 1, 1, 1, 0, 0, 0, 1, 0, 0, 0, 1, 3, 2, 1, 2,
            124, 112, 126, 112, 31, 0, 2, 1, 4, 2, 1, 0, 0, 1, 1, 0, 0};
        long[] formulaAlone = {62, 113, 112, 31, 0, 0, 0, 3, 0, 0, 0, 0, 0, 1, 0, 0};
        for (String words : new String[] {"if there is a frame, about(0) to about(4)",
            "for each world a, world(a, 0) to world(a, 5) and then arrow(a, b) for each world b",
            "keeps(0) to keeps(4)", "and, if there is a formula, too, valid() and part(k) for each part k",
            "then always the signs of the formula", "sorts(0) and sorts(1)", "the codes of the characters on the page",
            "and count(0) to count(10)."}) {
            says(words);
            due(with(frame, "", "letter(33) = 1"), "digest()", checksum(alone));
            due(with(frame, ">qp", "see(0, false) = 1; tells(0) = 0; tells(1) = 0; fail(1, 0) = 1; letter(126) = 1;"
                + " letter(32) = 2"), "digest()", checksum(both));
            due(with("k2:01;p1q", "|p~p", "valid() = 1"), "digest()", checksum(oneWay));
            due(with("", ">qp", "frame() = -103"), "digest()", checksum(formulaAlone));
        }
    }

    private static long[] joined(long[]... parts) {
        List<Long> numbers = new ArrayList<>();
        for (long[] part : parts) {
            for (long number : part) {
                numbers.add(number);
            }
        }
        return numbers.stream().mapToLong(Long::longValue).toArray();
    }
}
