import java.util.HashSet;
import java.util.Set;

/**
 * Where the document says that all valuations, or all frames, are tried: formulas for which one single valuation, or one
 * single frame (and those that differ from it by the order of the worlds alone), makes the answer, so that it cannot be
 * left out. The formulas were found by trying millions; what is said of them here is asked of the model, too.
 */
final class SearchEdges extends Edges {
    /**
     * A frame with four worlds (its arrow number), a formula, and the one valuation number under which it fails there.
     * There is one for each way to give four worlds p and q, apart from the order of the worlds.
     */
    private static final String[] FOUR_WORLDS = {
        "64758 MM|qp 0", "59390 >pM|Mqp 1", "32421 |pM>pMq 7", "61242 M|>pMqNp 10", "16351 MM>pq 15",
        "28308 >qMM|Mpq 16", "65086 >p>qM|pq 17", "29924 >Mq>pM|pMq 24", "40766 >&pqM>pq 31", "58828 M|Mp>Mqq 48",
        "49012 M>>pNq|~NMpq 69", "31403 >Mq|MMq>Npp 71", "64505 |M>pq>qp 75", "50604 |>pMqNM>MNqMp 82",
        "43253 M>M|pMp>qN|Mqp 83", "43381 M>&MqMp|pq 102", "29861 |>pM>qpq 120", "29422 >NNp|q>NqNp 126",
        "15395 ||MpqN|~qM|~pq 131", "47548 ||N>NpNq~Nq|pq 155", "17866 M>q|pMM>pq 165", "6723 MM>&qNpM>Mp|Npq 173",
        "22377 M>&MqNpq 175", "47989 |qM>qMp 176", "43926 M>&pNq&&MpNqq 182", "13431 >Nq>&pqMM|Nqp 184",
        "42361 ||MpqNM~N~>Mp~q 186", "28722 >&pMq>qM|Mqp 200", "36575 |q>N&qpp 221", "63422 N>N&Npqq 239",
        "55775 MM>qp 240", "44222 >pM>Nqp 241", "23975 M>&MpNqp 250", "38382 >N&Nqpp 254", "47866 MM~&pq 255",
    };
    /** For each number of worlds and each valuation number: a kind, a formula, and the countermodel that is found then. */
    private static final String[][] FIRST_FAILURES = {{
        "0 q 0 0", "0 ~p 0 0", "0 ~q 0 0", "0 ~&pq 0 0",
    }, {
        "0 q 0 0", "0 ~p 0 0", "4 >pMp 5 1", "0 N>NpNMp 3 0", "0 ~q 0 0", "0 ~&pq 0 0", "0 >&qMpp 2 0",
        "1 >&qNpNq 11 0", "4 >qMq 5 1", "4 >Np>qp 5 1", "4 >&pqMp 5 1", "1 >N&pMqq 11 0", "0 N>NqNMq 3 0",
        "1 >&pNqNp 11 0", "1 >&NqMpp 11 0", "0 >N&qpNNMp 3 0",
    }, {
        "0 q 0 0", "0 ~p 0 0", "4 >pMp 73 1", "1 >NpNNp 285 1", "1 >MMpMp 285 1", "4 >pN>pNp 74 2",
        "1 >pN>MNpp 285 1", "0 ~M&~MN>pMp&Mpp 14 0", "0 ~q 0 0", "0 ~&pq 0 0", "0 >&qMpp 2 0", "1 >&qNpNq 275 0",
        "1 >M&MpqMp 285 1", "4 >pN>q>pNp 74 2", "4 >qM>pN>pMp 98 0", "4 >pN>&qpM>pMq 82 2", "4 >qMq 73 1",
        "4 >Np>qp 73 1", "4 >&pqMp 73 1", "1 >N&pMqq 275 0", "1 >MMp>qMp 285 1", "4 >pN>pM>qp 74 2",
        "0 |>Mq>NppNq 6 0", "1 >MNq>NpNMq 279 0", "1 M>qNNq 285 1", "1 >&pNqNp 275 0", "1 >&NqMpp 275 0",
        "1 M>&qpNNq 285 1", "1 M>MMp>qp 285 1", "1 >NqN>NpNq 285 1", "1 >&NqpNN>pq 285 1", "1 M>&NpqNNq 285 1",
        "1 >MMqMq 285 1", "1 M>M&pMqq 285 1", "1 >MMq>pMq 285 1", "1 >NpNN>qp 285 1", "1 M>MM&qpp 285 1",
        "4 >&pqM>pMp 74 2", "4 >&qpN>MNpp 82 2", "1 M>MMq>Npq 285 1", "4 >qM>qMq 74 2", "4 >qN>&pqMq 74 2",
        "4 >qN>qN>pq 74 2", "1 >NpN>NqNp 285 1", "4 >&qpM>qMq 74 2", "4 >&qpN>&pqMp 74 2", "4 >&pqN>q>MpMq 74 2",
        "1 M>NpM>MNqNNq 375 0", "4 >qN>NNqq 82 2", "4 >qM>pN>qMp 82 2", "4 M>qM>MpNp 78 0", "1 >&qNpNNM>qp 285 1",
        "4 >&pqN>MNqq 82 2", "4 >&pqM>pM>qp 74 2", "4 >p>qM>NN&qpq 82 2", "1 M>N&pN|qMNqNNq 285 1",
        "0 >q>MqMN|~qMq 12 1", "1 M|~NqN|NMp~p 285 1", "1 |>&MpNqpNMp 279 0", "1 M>p>NqNNp 285 1",
        "1 M>MMp>Nqp 285 1", "1 >&N&qMNppNp 311 0", "4 >&qpN>MNp>Mq>qp 82 2",
        "0 N>N&Mp&pNqNM>pMp 28 1",
    }};
    /**
     * For two and for three worlds: an arrow number, a kind, and a formula for which it is that of the first countermodel.
     * With three worlds, no formula was found for 27 of the 104 frames that differ by more than the order of the worlds.
     */
    private static final String[][] FIRST_FRAMES = {{
        "0 0 p", "1 0 Np", "2 0 >Mqq", "3 0 >MpNp", "5 4 p", "6 3 >Mqq", "7 3 >MpNp", "9 1 p", "11 1 >Mqq",
        "15 1 M>MpNp",
    }, {
        "0 0 q", "1 0 Np", "2 0 >Mpp", "3 0 >MMpp", "6 0 >Mp>NNpNp", "7 0 >M&pNpN>pNp", "9 0 |pN>pNq", "10 3 >Mpp",
        "11 3 >MMpp", "12 0 >NMNpNp", "13 0 |>MMMpMpp", "14 0 N>MpMNMp", "15 0 N|p>MMMpMp", "19 0 N>M&NpMqp",
        "22 0 >p>MNpN|pNp", "23 0 |N>MNp~NpN>pNp", "27 3 >pN>pMNp", "28 0 NN>MqMMMq", "29 0 |NpMN>pNMp",
        "30 0 >MMMMpMMp", "31 0 |MN>Nq~qNMNNq", "38 0 |>NNNpNpN>pNp", "39 0 N|~p|N>p|NqMpNp", "46 0 |>pNMpN>Mp|NpMMp",
        "73 4 q", "74 4 N>Mpp", "75 4 >MpNp", "78 4 MM>MqNq", "79 3 |>MMMpMpp", "82 4 N>MNpp", "83 4 NN>MNpp",
        "86 4 >MNpNMp", "87 4 NMN>MNpp", "90 4 MM>pNNp", "91 4 M|pMN>pMNp", "92 4 N>qN>qMq", "93 4 |MpNM>MMpp",
        "94 3 >MMMMNpMp", "95 3 >&MppMNNMp", "98 4 NN>NNpp", "99 4 >MpN>NNpp", "102 4 >MNNpNMMp",
        "103 4 MMNM>qN>qNMq", "105 4 >Mp>NNNpNp", "107 4 MMM>MMMpMNMp", "108 4 |>MNppNMM>pNp", "110 4 MM|pMN~MNNMp",
        "113 4 N|N>NNqqq", "115 4 |pNM>MpMNMp", "117 0 |NMpMN>NNMNNMpNp", "118 4 MMMN>MNpNMp", "119 4 MMMN>MNpNM|Npp",
        "121 4 N|N>NNqq>Mqq", "124 4 |NpN>pNMM>pMp", "209 4 >MN&NppNMMp", "213 4 |NM|Mpp>MMMpMp", "221 4 MMM>MMqNMq",
        "222 0 |M>MqN>Nqq>MpNp", "238 3 |>qNp>MpM|Nqq", "239 3 >&qp|MN>qp>MqNq", "245 3 >NM>Mpp>MpNMp",
        "255 3 |>pNMM>MqN|qpq", "273 1 q", "275 1 >Mpp", "279 1 >MNpNMp", "283 1 M>MqNq", "285 1 >MMpMp",
        "287 1 MN>MMpMp", "311 2 |pN>pNMp", "319 2 |N>pNp>MNpp", "347 1 >NpNN>Mpp", "351 1 MMN>MpNMp",
        "371 1 >pN>MMpMp", "375 1 MMN>MMpMp", "381 2 >pNM|>MqNqp", "383 1 MMNM>qMN>qNq", "511 2 MN|N>p>qNp>pq",
    }};
    /**
     * An arrow number, a property, and a formula that is valid in exactly the frames with three worlds that have it, but
     * for the frame with this number. For 57 of the 104 frames none was found.
     */
    private static final String[] ALMOST = {
        "12 1 >MMM|qMqMq", "13 1 >M>M&NqpNp>MMpMp", "14 2 |&NNpMMp>pNMp", "15 2 >NN>NpNNMq>pNMp",
        "22 1 >>MpNNMq>MMpNMq", "28 1 >>pNMMq>NpNNp", "31 2 >N>>MqqNMNq>pNMp", "38 1 >MMp&MMMpMp",
        "39 1 >N>>MpMMppNNp", "46 1 >>NNNpNMq>NpNNp", "47 1 >NNN>MNqp>NpNNp", "74 3 |pMM>pMMMp", "78 3 MMM>Mp>pNp",
        "82 3 |M>NNppp", "83 3 M>NMNNp|pNp", "84 0 >>N>NqqN&qMqq", "86 3 M>MMqNM>NNNqq", "87 3 MNN>pM>pNMp",
        "90 3 MM>NMNNMMpp", "91 3 M|qMMM>MqNq", "94 2 >|pMMMNpNMp", "98 3 MM>NNpp", "99 3 M>p>NpNNMp",
        "102 3 M>MNNqNMMq", "103 0 |MMMMNNMp>pMp", "105 4 >|MMqNqNMq", "110 3 MM>NMMNNMMpMp", "113 1 >>pMMNMp>NpNNp",
        "115 3 M>pMN>MNMpMp", "118 3 M|MM>MNpMNNMp~p", "121 1 >N|p&MMpNp>MpNNp", "209 4 N>NNMMNpp",
        "213 0 >NM>MMpNNMMp>pMp", "214 1 |>NpNNpN&MpNNp", "215 0 >NN>MNNpNp>Npp", "219 4 >>>qNpMqN>pMq",
        "221 0 >qM>M>MN>~qMqqq", "222 2 >N>MpMMp>pNMp", "223 2 >M>MMpp>pNMp", "279 0 &>Npp>MNNqNMMq",
        "285 0 >Nq&qNMNMq", "287 0 >qM>>qMMNpNMp", "347 0 >Np&NMMM>MpNpp", "351 4 >MNN|NMNppNp", "371 2 >M&pNMNpp",
        "375 3 M~NN&MNMpM~NMp", "383 1 |&pNNMNp>NpNNp",
    };

    SearchEdges(Checks checks, Document document) {
        super(checks, document);
    }

    void all() {
        validInChains();
        validInFourWorlds();
        failsUnderEach();
        failsInEach();
        tellsEachApart();
    }

    /** A chain of worlds; the formula asks each of them in turn, and fails in the first one if all are as they should be. */
    private void validInChains() {
        section("Description");
        says("A formula is valid in a frame if it holds in all worlds, in whatever worlds p and q hold.");
        for (int worlds = 1; worlds <= 3; worlds++) {
            for (int first = 0; first < worlds; first++) {
                for (int step = 1; step < Math.max(worlds, 2); step++) {
                    for (int valuation = 0; valuation < 1 << (2 * worlds); valuation++) {
                        validInChain(worlds, first, step, valuation);
                    }
                }
            }
        }
    }

    private void validInChain(int worlds, int first, int step, int valuation) {
        int arrows = 0;
        StringBuilder formula = new StringBuilder();
        for (int i = 0; i < worlds; i++) {
            int world = (first + i * step) % worlds;
            int next = (world + step) % worlds;
            boolean last = i == worlds - 1;
            boolean p = (valuation >> world & 1) == 1;
            boolean q = (valuation >> (worlds + world) & 1) == 1;
            formula.append(p ? ">p" : "|p").append(last ? q ? "~q" : "q" : q ? ">qN" : "|qN");
            arrows += last ? 0 : 1 << (worlds * world + next);
        }
        failsUnder(worlds, arrows, formula.toString(), valuation);
    }

    /** That it fails under no other valuation is asked of the model; that it is not valid, of the class. */
    private void failsUnder(int worlds, int arrows, String formula, int valuation) {
        for (int other = 0; other < 1 << (2 * worlds); other++) {
            boolean fails = Model.failure(Model.numbered(0, worlds, arrows, 0).marked(other), formula) != Model.NONE;
            if (fails != (other == valuation)) {
                checks.due(formula + " fails under " + other, fails ? 1 : 0, other == valuation ? 1 : 0);
            }
        }
        due(checks.with(Checks.frameText(0, worlds, arrows), formula), "valid()", 0);
    }

    private void validInFourWorlds() {
        section("Description");
        says("A formula is valid in a frame if it holds in all worlds, in whatever worlds p and q hold.");
        Set<Integer> failed = new HashSet<>();
        for (String row : FOUR_WORLDS) {
            String[] parts = row.split(" ");
            for (int order = 0; order < 256; order++) {
                int[] place = {order & 3, order >> 2 & 3, order >> 4 & 3, order >> 6};
                int valuation = moved(Integer.parseInt(parts[2]), place, 2);
                boolean isOrder = (1 << place[0] | 1 << place[1] | 1 << place[2] | 1 << place[3]) == 15;
                if (isOrder && failed.add(valuation)) {
                    failsUnder(4, movedArrows(Integer.parseInt(parts[0]), place), parts[1], valuation);
                }
            }
        }
        checks.due("valuations of four worlds", failed.size(), 256);
    }

    /** The sets of worlds in a number, when each world has gone to its place. */
    private static int moved(int number, int[] place, int sets) {
        int moved = 0;
        for (int bit = 0; bit < 4 * sets; bit++) {
            moved += (number >> bit & 1) << (bit / 4 * 4 + place[bit % 4]);
        }
        return moved;
    }

    private static int movedArrows(int arrows, int[] place) {
        int moved = 0;
        for (int world = 0; world < 4; world++) {
            moved += moved(arrows >> (4 * world) & 15, place, 1) << (4 * place[world]);
        }
        return moved;
    }

    private void failsUnderEach() {
        promise(21);
        String[] words = {"Finds the first countermodel: of all frames of the kind of the frame that fit it and have a certain"
            + " number of worlds, with all valuations, and all worlds in which the formula does not hold, the one with the"
            + " lowest arrow number", "of several, the one with the lowest valuation number", "of several, the lowest world"};
        for (int worlds = 1; worlds <= 3; worlds++) {
            String[] rows = FIRST_FAILURES[worlds - 1];
            for (int valuation = 0; valuation < rows.length; valuation++) {
                String[] parts = rows[valuation].split(" ");
                FrameBoard board = checks.with(Checks.frameText(Integer.parseInt(parts[0]), 1, 0), parts[1]);
                long[] want = {Long.parseLong(parts[2]), valuation, Long.parseLong(parts[3])};
                for (int what = 0; what < 3; what++) {
                    says(words[what]);
                    checks.due(parts[1] + ": fail(" + worlds + ", " + what + ")",
                        checks.ask(board, "fail(" + worlds + ", " + what + ")"), want[what]);
                }
            }
        }
    }

    private void failsInEach() {
        promise(21);
        says("Finds the first countermodel: of all frames of the kind of the frame that fit it and have a certain number of"
            + " worlds, with all valuations, and all worlds in which the formula does not hold, the one with the lowest arrow"
            + " number");
        for (int worlds = 2; worlds <= 3; worlds++) {
            for (String row : FIRST_FRAMES[worlds - 2]) {
                String[] parts = row.split(" ");
                FrameBoard board = checks.with(Checks.frameText(Integer.parseInt(parts[1]), 1, 0), parts[2]);
                checks.due(parts[2] + ": fail(" + worlds + ", 0)", checks.ask(board, "fail(" + worlds + ", 0)"),
                    Long.parseLong(parts[0]));
            }
        }
    }

    private void tellsEachApart() {
        section("Description");
        says("The formula defines a property if, of all frames with three worlds, it is valid in exactly those that have the"
            + " property.");
        for (String row : ALMOST) {
            String[] parts = row.split(" ");
            int law = Integer.parseInt(parts[1]);
            int least = 512;
            for (int number = 511; number >= 0; number--) {
                Model.Shape frame = Model.numbered(0, 3, number, 0);
                least = frame.law(law) == Model.isValid(frame, parts[2]) ? least : number;
            }
            checks.due("the first frame that " + parts[2] + " does not tell apart", least, Long.parseLong(parts[0]));
            due(checks.with("", parts[2]), "tells(" + law + ")", 0);
        }
    }
}
