/** Promises 7 to 19, sentence by sentence: the frame, and what is done to it. */
final class FrameEdges extends Edges {
    /** For each kind of a frame, what as() answers for each kind that is asked for. */
    private static final int[][] TYPES = {
        {0, -1, -1, -1, -1}, {1, 1, -1, -1, -1}, {2, 2, 2, -1, -1}, {3, -1, -1, 3, -1}, {4, -1, -1, -1, 4}};

    FrameEdges(Checks checks, Document document) {
        super(checks, document);
    }

    void all() {
        about();
        as();
        world();
        similarWorlds();
        arrow();
        part();
        sign();
        draw();
        mark();
        add();
        take();
        be();
        close();
        shrink();
    }

    private void about() {
        promise(7);
        says("Returns one property of the frame.");
        with("s4:00,11,22,33,01;p0q1", "", "about(0) = 2; about(1) = 4; about(2) = 5; about(3) = 1; about(4) = 3");
        says("`what`: 0: its kind");
        for (int kind = 0; kind < 5; kind++) {
            with(Checks.frameText(kind, 1, 0), "", "about(0) = " + kind);
            with(Checks.frameText(kind, 4, 65535), "", "about(0) = " + kind);
        }
        says("1: the number of worlds");
        with("k1:;pq", "", "about(1) = 1; add() = 1; about(1) = 2; add() = 2; add() = 3; about(1) = 4");
        with(LONGEST_FRAME, "", "about(1) = 4; take(3) = 3; about(1) = 3; take(0) = 2; take(0) = 1; about(1) = 1");
        says("2: the number of arrows");
        with("k4:;p0123q", "", "about(2) = 0; draw(3, 3, true) = 1; about(2) = 1");
        with(LONGEST_FRAME, "", "about(2) = 16; draw(0, 0, false) = 15; about(2) = 15");
        with("k1:;pq", "", "about(2) = 0; draw(0, 0, true) = 1; about(2) = 1");
        says("3: 1 if it fits its kind, 0 if not");
        for (int kind = 0; kind < 5; kind++) {
            with(Checks.frameText(kind, 4, 65535), "", "about(3) = 1");
            with(Checks.frameText(kind, 1, 0), "", "about(3) = " + (kind == 0 || kind == 3 ? 1 : 0));
            with(Checks.frameText(kind, 2, 2), "", "about(3) = " + (kind == 0 ? 1 : 0));
        }
        says("4: the number of classes of bisimilar worlds");
        with("k1:;pq", "", "about(4) = 1");
        with(LONGEST_FRAME, "", "about(4) = 1");
        with("k4:;p01q02", "", "about(4) = 4");
        with("k4:01,12,23;pq", "", "about(4) = 4; draw(2, 3, false) = 2; about(4) = 3");
        says("Returns the property");
        with("y2:01,10,11;p0q", "", "about(0) = 3; about(1) = 2; about(2) = 3; about(3) = 1; about(4) = 2");
        says("OUTSIDE if what is not 0 to 4");
        beyond(with("d1:;pq", "", "about(0) = 4; about(4) = 1; about(5) = -102; about(-1) = -102"), "about(*)", 0, 4,
            OUTSIDE);
    }

    private void as() {
        promise(8);
        for (int own = 0; own < 5; own++) {
            FrameBoard board = checks.with(Checks.frameText(own, 2, 1), "");
            for (int kind = 0; kind < 5; kind++) {
                says("Casts the frame to the type of a kind.");
                due(board, "as(" + kind + ")", TYPES[own][kind]);
                says(TYPES[own][kind] == own ? "Returns the own kind of the frame if it is of this type"
                    : "NONE if not");
                due(board, "as(" + kind + ")", TYPES[own][kind]);
                due(board, "about(0)", own);
            }
        }
        says("Returns the own kind of the frame if it is of this type");
        with("k3:;pq", "", "as(0) = 0; be(2) = 0; as(0) = 2; as(1) = 2; as(2) = 2; be(1) = 2; as(0) = 1; as(1) = 1");
        says("NONE if not");
        with("k1:00;pq", "", "as(1) = -1; as(2) = -1; as(3) = -1; as(4) = -1; be(1) = 0; as(2) = -1");
        says("`kind`: the kind, 0 to 4");
        beyond(with("d1:;pq", "", "as(0) = 4; as(4) = 4; as(5) = -102; as(-1) = -102"), "as(*)", 0, 4, OUTSIDE);
    }

    private void world() {
        promise(9);
        says("Returns one property of a world.");
        with("k3:01,12,11,21;p12q1", "Np", "world(1, 0) = 2; world(1, 1) = 3; world(1, 2) = 3; world(1, 3) = 1;"
            + " world(1, 4) = 1; world(1, 5) = 1");
        says("`world`: the world");
        beyond(with("k4:33;p0q3", "", "world(0, 2) = 1; world(3, 2) = 2; world(4, 2) = -101; world(-1, 2) = -101"),
            "world(*, 2)", 0, 3, UNKNOWN);
        beyond(with("k1:;p0q", "", "world(0, 2) = 1; world(1, 2) = -101; add() = 1; world(1, 2) = 0; take(0) = 1;"
            + " world(0, 2) = 0"), "world(*, 2)", 0, 0, UNKNOWN);
        says("`what`: 0: how many arrows lead from it");
        with("k4:30,31,32,33,00,10;pq", "", "world(3, 0) = 4; world(0, 0) = 1; world(1, 0) = 1; world(2, 0) = 0");
        says("1: how many arrows lead to it");
        with("k4:03,13,23,33,00,01;pq", "", "world(3, 1) = 4; world(0, 1) = 1; world(1, 1) = 1; world(2, 1) = 0");
        says("2: 1 if p holds in it, plus 2 if q holds in it");
        with("k4:;p13q23", "", "world(0, 2) = 0; world(1, 2) = 1; world(2, 2) = 2; world(3, 2) = 3");
        says("3: the lowest world that is bisimilar to it (perhaps itself)");
        with(LONGEST_FRAME, "", "world(0, 3) = 0; world(1, 3) = 0; world(2, 3) = 0; world(3, 3) = 0");
        with("k4:;p01q02", "", "world(0, 3) = 0; world(1, 3) = 1; world(2, 3) = 2; world(3, 3) = 3");
        with("k4:;p0q", "", "world(0, 3) = 0; world(1, 3) = 1; world(2, 3) = 1; world(3, 3) = 1");
        with("k1:;pq", "", "world(0, 3) = 0");
        says("Returns the property");
        with("k2:01,11;p1q", "~p", "world(0, 0) = 1; world(0, 1) = 0; world(0, 2) = 0; world(0, 3) = 0; world(0, 4) = 0;"
            + " world(0, 5) = 1; world(1, 0) = 1; world(1, 1) = 2; world(1, 2) = 1; world(1, 3) = 1; world(1, 4) = 1;"
            + " world(1, 5) = 0");
        says("OUTSIDE if what is not 0 to 5");
        beyond(with("k1:00;pq", "p", "world(0, 0) = 1; world(0, 5) = 0; world(0, 6) = -102; world(0, -1) = -102"),
            "world(0, *)", 0, 5, OUTSIDE);
    }

    private void similarWorlds() {
        promise(9);
        says("4: the lowest world that is similar to it for the formula (perhaps itself), or NONE if there is no"
            + " formula");
        with("k4:01,12,23;p0123q", "p", "world(0, 4) = 0; world(1, 4) = 0; world(2, 4) = 0; world(3, 4) = 0");
        with("k4:;p01q02", "&pq", "world(0, 4) = 0; world(1, 4) = 1; world(2, 4) = 2; world(3, 4) = 3");
        with("k4:;p01q02", "p", "world(0, 4) = 0; world(1, 4) = 0; world(2, 4) = 2; world(3, 4) = 2");
        with("k1:;pq", "p", "world(0, 4) = 0");
        with("k1:;pq", "", "world(0, 4) = -1");
        with("k4:;pq", "", "world(3, 4) = -1; letter(112) = 1; world(3, 4) = -1; formula() = 1; world(3, 4) = 0");
        says("5: 1 if the formula holds in it, 0 if not, NONE if there is no formula");
        with("k4:;p3q", "p", "world(3, 5) = 1; world(0, 5) = 0; world(2, 5) = 0");
        with("k4:;p3q", "~p", "world(3, 5) = 0; world(0, 5) = 1; world(2, 5) = 1");
        with("k1:;p0q0", "", "world(0, 5) = -1; letter(112) = 1; world(0, 5) = -1; formula() = 1; world(0, 5) = 1");
    }

    private void arrow() {
        promise(10);
        says("Tells whether there is an arrow.");
        with("k2:01;pq", "", "arrow(0, 1) = 1; arrow(1, 0) = 0; arrow(0, 0) = 0; arrow(1, 1) = 0");
        says("`from`: the world from which it leads");
        beyond(with("k4:03,30;pq", "", "arrow(0, 3) = 1; arrow(3, 0) = 1; arrow(4, 0) = -101; arrow(-1, 0) = -101"),
            "arrow(*, 3)", 0, 3, UNKNOWN);
        says("`to`: the world to which it leads");
        beyond(with("k4:03,30;pq", "", "arrow(0, 3) = 1; arrow(3, 0) = 1; arrow(0, 4) = -101; arrow(0, -1) = -101"),
            "arrow(3, *)", 0, 3, UNKNOWN);
        beyond(with("k1:00;pq", "", "arrow(0, 0) = 1; arrow(0, 1) = -101; arrow(1, 0) = -101"), "arrow(*, *)", 0, 0,
            UNKNOWN);
        says("Returns 1 if there is one, 0 if not");
        FrameBoard full = with(LONGEST_FRAME, "", "about(2) = 16");
        FrameBoard bare = with("k4:;pq", "", "about(2) = 0");
        for (int pair = 0; pair < 16; pair++) {
            due(full, "arrow(" + pair / 4 + ", " + pair % 4 + ")", 1);
            due(bare, "arrow(" + pair / 4 + ", " + pair % 4 + ")", 0);
            FrameBoard one = checks.with(Checks.frameText(0, 4, 1 << pair), "");
            for (int other = 0; other < 16; other++) {
                due(one, "arrow(" + other / 4 + ", " + other % 4 + ")", other == pair ? 1 : 0);
            }
        }
    }

    private void part() {
        promise(11);
        says("Returns the worlds in which a part of the formula holds.");
        with("k3:01,12;p2q1", ">Mp&q~p", "part(2) = 4; part(1) = 2; part(4) = 2; part(6) = 4; part(5) = 3; part(3) = 2;"
            + " part(0) = 7");
        says("`part`: the part");
        beyond(with("k1:;p0q", "~~~~~~~~~~~~~~~p", "part(0) = 0; part(15) = 1; part(16) = -101; part(-1) = -101"),
            "part(*)", 0, 15, UNKNOWN);
        beyond(with("k1:;p0q", "p", "part(0) = 1; part(1) = -101; part(-1) = -101"), "part(*)", 0, 0, UNKNOWN);
        says("Returns the set of these worlds");
        with("k4:;p0123q", "~p", "part(0) = 0; part(1) = 15");
        with("k1:;p0q", "~p", "part(0) = 0; part(1) = 1");
        with("k4:;p3q0", "|pq", "part(1) = 8; part(2) = 1; part(0) = 9");
        says("UNKNOWN if there is no such part (also if there is no formula)");
        with("k1:;pq", "", "part(0) = -101; part(1) = -101; letter(112) = 1; part(0) = -101; formula() = 1;"
            + " part(0) = 0");
    }

    private void sign() {
        promise(12);
        says("Returns a sign of the formula.");
        with("", ">p~q", "sign(0) = 62; sign(1) = 112; sign(2) = 126; sign(3) = 113");
        says("`part`: its index");
        beyond(with("", "~~~~~~~~~~~~~~~p", "sign(0) = 126; sign(15) = 112; sign(16) = -101"), "sign(*)", 0, 15, UNKNOWN);
        beyond(with("", "q", "sign(0) = 113; sign(1) = -101; sign(-1) = -101"), "sign(*)", 0, 0, UNKNOWN);
        says("Returns its code");
        for (char code : "pq~NM&|>".toCharArray()) {
            String formula = code == 'p' || code == 'q' ? "" + code : code + (code == '~' || code > 64 && code < 91
                ? "p" : "pq");
            with("", formula, "sign(0) = " + (int) code);
        }
        says("UNKNOWN if there is no such sign (also if there is no formula)");
        with("k1:;pq", "", "sign(0) = -101; sign(1) = -101; letter(112) = 1; sign(0) = -101; formula() = 1;"
            + " sign(0) = 112; sign(1) = -101");
    }

    private void draw() {
        promise(13);
        says("Adds or removes an arrow.");
        for (int pair = 0; pair < 16; pair++) {
            String ends = pair / 4 + ", " + pair % 4;
            with("k4:;pq", "", "draw(" + ends + ", true) = 1; arrow(" + ends + ") = 1; draw(" + ends + ", false) = 0;"
                + " arrow(" + ends + ") = 0; digest() = " + checksum(0, 4, 0, 1, 1,
                    0, 0, 0, 0, -1, -1, 0, 0, 0, 0, 0, 0, 0, 0, -1, -1, 0, 0, 0, 0,
                    0, 0, 0, 0, -1, -1, 0, 0, 0, 0, 0, 0, 0, 0, -1, -1, 0, 0, 0, 0,
                    0, 1, 1, 0, 1, 31, 0, 4, 0, 0, 0, 3, 0, 0, 1, 0, 0, 0));
        }
        says("`from`: the world from which it leads");
        beyond(with("k4:;pq", "", "draw(0, 1, true) = 1; draw(3, 1, true) = 2; world(0, 0) = 1; world(3, 0) = 1;"
            + " draw(4, 1, true) = -101"), "draw(*, 1, true)", 0, 3, UNKNOWN);
        says("`to`: the world to which it leads");
        beyond(with("k4:;pq", "", "draw(1, 0, true) = 1; draw(1, 3, true) = 2; world(0, 1) = 1; world(3, 1) = 1;"
            + " draw(1, 4, true) = -101"), "draw(1, *, true)", 0, 3, UNKNOWN);
        says("`there`: true to add it, false to remove it");
        with("k1:;pq", "", "draw(0, 0, true) = 1; arrow(0, 0) = 1; draw(0, 0, false) = 0; arrow(0, 0) = 0;"
            + " draw(0, 0, true) = 1; arrow(0, 0) = 1");
        says("Returns how many arrows there are then");
        FrameBoard board = with("k4:;pq", "", "count(1) = 0");
        for (int pair = 0; pair < 16; pair++) {
            due(board, "draw(" + pair / 4 + ", " + pair % 4 + ", true)", pair + 1);
        }
        for (int pair = 0; pair < 16; pair++) {
            due(board, "draw(" + pair / 4 + ", " + pair % 4 + ", false)", 15 - pair);
        }
        says("STATE if the arrow is there already, or is not there already");
        with("k2:01;pq", "", "draw(0, 1, true) = -103; draw(0, 1, false) = 0; draw(0, 1, false) = -103;"
            + " draw(0, 1, true) = 1; draw(0, 1, true) = -103; draw(1, 0, false) = -103; draw(0, 0, false) = -103");
    }

    private void mark() {
        promise(14);
        says("Sets whether p and q hold in a world.");
        with("k4:01;p12q23", "", "mark(0, 3) = 0; mark(3, 1) = 2; world(0, 2) = 3; world(1, 2) = 1; world(2, 2) = 3;"
            + " world(3, 2) = 1; count(1) = 1; arrow(0, 1) = 1");
        says("`world`: the world");
        beyond(with("k4:;pq", "", "mark(0, 1) = 0; mark(3, 2) = 0; mark(4, 1) = -101; world(0, 2) = 1; world(3, 2) = 2"),
            "mark(*, 1)", 0, 3, UNKNOWN);
        beyond(with("k1:;pq", "", "mark(0, 1) = 0; mark(1, 1) = -101; mark(-1, 1) = -101"), "mark(*, 1)", 0, 0, UNKNOWN);
        says("`marks`: 1 if p shall hold in it, plus 2 if q shall hold in it");
        with("k2:;pq", "|pq", "mark(1, 1) = 0; part(1) = 2; part(2) = 0; mark(1, 2) = 1; part(1) = 0; part(2) = 2;"
            + " mark(1, 3) = 2; part(1) = 2; part(2) = 2; mark(1, 0) = 3; part(0) = 0");
        says("Returns what it was before, in the same form");
        for (int before = 0; before < 4; before++) {
            for (int marks = 0; marks < 4; marks++) {
                with("k2:;pq", "", "mark(1, " + before + ") = 0; mark(1, " + marks + ") = " + before + "; mark(1, 0) = "
                    + marks + "; world(0, 2) = 0");
            }
        }
        says("OUTSIDE if marks is not 0 to 3");
        beyond(with("k1:;p0q", "", "mark(0, 0) = 1; mark(0, 3) = 0; mark(0, 4) = -102; mark(0, -1) = -102"),
            "mark(0, *)", 0, 3, OUTSIDE);
    }

    private void add() {
        promise(15);
        says("Adds a world without arrows, in which neither p nor q holds.");
        with("t1:00;p0q0", "", "add() = 1; world(1, 0) = 0; world(1, 1) = 0; world(1, 2) = 0; world(0, 0) = 1;"
            + " world(0, 2) = 3; about(0) = 1; about(2) = 1");
        with(LONGEST_FRAME, "", "take(3) = 3; add() = 3; world(3, 0) = 0; world(3, 1) = 0; world(3, 2) = 0;"
            + " about(2) = 9; take(0) = 3; take(0) = 2; take(0) = 1; add() = 1; add() = 2; add() = 3; about(2) = 0;"
            + " world(0, 2) = 0; world(1, 2) = 0; world(2, 2) = 0; world(3, 2) = 0");
        with(LONGEST_FRAME, "", "shrink() = 1; add() = 1; add() = 2; add() = 3; about(2) = 1; world(1, 2) = 0;"
            + " world(2, 2) = 0; world(3, 2) = 0");
        says("Returns its number");
        with("k1:;pq", "", "add() = 1; add() = 2; add() = 3; about(1) = 4");
        with("k3:;pq", "", "add() = 3; about(1) = 4");
        says("FULL if there are 4 worlds already");
        with("k4:;pq", "", "add() = -104; about(1) = 4; take(0) = 3; add() = 3; add() = -104");
        with("k1:;pq", "", "add() = 1; add() = 2; add() = 3; add() = -104; shrink() = 1; add() = 1");
    }

    private void take() {
        promise(16);
        says("Removes a world with all its arrows.");
        for (int world = 0; world < 4; world++) {
            with(LONGEST_FRAME, "", "take(" + world + ") = 3; about(2) = 9; world(0, 0) = 3; world(2, 1) = 3");
            with("k4:" + world + world + ";p" + world + "q", "|pq", "take(" + world + ") = 3; about(2) = 0; part(0) = 0");
        }
        with("k2:00,01,10;p0q1", "", "take(0) = 1; about(2) = 0; world(0, 2) = 2");
        with("k2:00,01,10;p0q1", "", "take(1) = 1; about(2) = 1; world(0, 2) = 1; arrow(0, 0) = 1");
        says("The numbers of the worlds after it decrease by 1.");
        with("k4:01,12,23,30;p1q3", "|pq", "take(0) = 3; arrow(0, 1) = 1; arrow(1, 2) = 1; about(2) = 2; part(1) = 1;"
            + " part(2) = 4");
        with("k4:01,12,23,30;p1q3", "|pq", "take(2) = 3; arrow(0, 1) = 1; arrow(2, 0) = 1; about(2) = 2; part(1) = 2;"
            + " part(2) = 4");
        with("k4:01,12,23,30;p1q3", "|pq", "take(3) = 3; arrow(0, 1) = 1; arrow(1, 2) = 1; about(2) = 2; part(1) = 2;"
            + " part(2) = 0");
        says("`world`: the world");
        beyond(with("k4:;p0q3", "", "take(3) = 3; take(3) = -101; take(0) = 2; world(0, 2) = 0; world(1, 2) = 0;"
            + " take(2) = -101; take(-1) = -101"), "take(*)", 0, 1, UNKNOWN);
        says("Returns how many worlds are left");
        with("k4:;pq", "", "take(0) = 3; take(0) = 2; take(0) = 1; about(1) = 1");
        with("k4:;pq", "", "take(3) = 3; take(2) = 2; take(1) = 1; about(1) = 1");
        says("STATE if it is the only one");
        with("k1:00;p0q", "", "take(0) = -103; add() = 1; take(0) = 1; take(0) = -103; world(0, 2) = 0");
    }

    private void be() {
        promise(17);
        says("Changes the kind of the frame.");
        for (int kind = 0; kind < 5; kind++) {
            with("k2:01;pq", "", "be(" + kind + ") = 0; about(0) = " + kind + "; as(0) = " + kind);
        }
        says("Its worlds, arrows and propositions stay.");
        for (int kind = 0; kind < 5; kind++) {
            with("k4:01,33;p02q2", "|pq", "see(1, true) = 1; be(" + kind + ") = 0; about(1) = 4; about(2) = 2;"
                + " arrow(0, 1) = 1; arrow(3, 3) = 1; part(1) = 5; part(2) = 4; count(5) = 1");
        }
        says("`kind`: the new kind, 0 to 4");
        beyond(with("y1:;pq", "", "be(0) = 3; be(4) = 0; be(5) = -102; be(-1) = -102; about(0) = 4"), "be(*)", 0, 4,
            OUTSIDE);
        says("Returns the old kind");
        with("d1:;pq", "", "be(3) = 4; be(2) = 3; be(1) = 2; be(0) = 1; be(0) = 0; be(4) = 0; be(4) = 4");
    }

    private void close() {
        promise(18);
        says("Adds as few arrows as possible so that the frame fits its kind.");
        with("t4:;pq", "", "close() = 4; about(3) = 1; arrow(0, 0) = 1; arrow(3, 3) = 1");
        with("t4:01,11;pq", "", "close() = 3; about(2) = 5; about(3) = 1; arrow(1, 0) = 0");
        with("s4:;pq", "", "close() = 4; about(3) = 1; about(2) = 4");
        with("s4:32,21,10;pq", "", "close() = 7; about(3) = 1; arrow(3, 0) = 1; arrow(0, 3) = 0");
        with("s4:03,31,12,20;pq", "", "close() = 12; about(3) = 1; about(2) = 16");
        with("y4:01,02,03,12,13,23,00;pq", "", "close() = 6; about(3) = 1; arrow(3, 0) = 1; arrow(1, 1) = 0");
        with("y4:30,20,10,32,31,21,33;pq", "", "close() = 6; about(3) = 1; arrow(0, 3) = 1; arrow(0, 0) = 0");
        with("y4:00,11;pq", "", "close() = 0; about(2) = 2");
        with("k4:01,12;pq", "", "close() = 0; about(2) = 2; about(3) = 1");
        with("d4:01,12,23,30;pq", "", "close() = 0; about(2) = 4; draw(2, 3, false) = 3; close() = 1; about(3) = 1");
        says("(For kind 4, a world from which there is no arrow gets an arrow to itself.)");
        with("d4:01,33;pq", "", "close() = 2; arrow(1, 1) = 1; arrow(2, 2) = 1; arrow(0, 0) = 0; about(3) = 1");
        with("d4:03,13,23;pq", "", "close() = 1; arrow(3, 3) = 1");
        with("d1:;pq", "", "close() = 1; arrow(0, 0) = 1; close() = 0");
        says("Returns how many arrows have been added");
        for (int kind = 0; kind < 5; kind++) {
            with(Checks.frameText(kind, 4, 65535), "", "close() = 0; about(2) = 16");
            with(Checks.frameText(kind, 4, 0), "", "close() = " + (kind == 0 || kind == 3 ? 0 : 4) + "; close() = 0");
            with(Checks.frameText(kind, 1, 0), "", "close() = " + (kind == 0 || kind == 3 ? 0 : 1) + "; close() = 0");
        }
    }

    private void shrink() {
        promise(19);
        says("Merges bisimilar worlds: of each class of bisimilar worlds only the lowest one stays, and arrows to the"
            + " others lead to this one instead.");
        with(LONGEST_FRAME, "", "shrink() = 1; arrow(0, 0) = 1; about(2) = 1; world(0, 2) = 3; about(4) = 1");
        with("k4:03,13,20;p3q", "", "shrink() = 3; arrow(0, 2) = 1; arrow(1, 0) = 1; about(2) = 2; world(2, 2) = 1");
        with("d3:02,10,20;p0q", "", "shrink() = 2; about(2) = 2; arrow(0, 1) = 1; arrow(1, 0) = 1; about(0) = 4");
        with("k4:01,13,02,23;p0q", "", "about(4) = 3; shrink() = 3; arrow(0, 1) = 1; arrow(1, 2) = 1; about(2) = 2");
        says("The worlds that stay are numbered anew, in the same order.");
        with("k4:;p03q2", "|pq", "shrink() = 3; part(1) = 1; part(2) = 4; world(1, 2) = 0");
        with("k4:;p12q3", "|pq", "shrink() = 3; part(1) = 2; part(2) = 4; world(0, 2) = 0");
        says("Returns how many worlds are left");
        with("k1:;pq", "", "shrink() = 1; shrink() = 1");
        with("k4:;pq", "", "shrink() = 1");
        with("k4:;p0q", "", "shrink() = 2");
        with("k4:;p0q1", "", "shrink() = 3");
        with("k4:;p01q02", "", "shrink() = 4; shrink() = 4; about(1) = 4");
    }
}
