/** Modal logic on small Kripke frames. ../shared/DOC.md says what each method promises. */
public final class FrameBoard {
    public static final int NONE = -1, UNKNOWN = -101, OUTSIDE = -102, STATE = -103, FULL = -104;

    private static final int MOST_WORLDS = 4;
    private static final int MOST_SIGNS = 16;
    private static final int MOST_CHARACTERS = 66;
    private static final int MOST_SEARCHES = 12;
    private static final int MOST_TIMES = 60;
    private static final int KINDS = 5;
    private static final int LAWS = 5;
    private static final int TOLD_OF_FRAME = 5;
    private static final int TOLD_OF_WORLD = 6;
    private static final int COUNTS = 11;

    private final Page page;
    private final FrameText frameText;
    private final FormulaText formulaText;
    private final Frame frame;
    private final Formula formula;
    private final Observations observations;
    private final Frame savedFrame;
    private final Observations savedObservations;
    private final Frame candidate;
    private final Truth truth;
    private boolean saved;
    private int framesRead;
    private int formulasRead;
    private int failCalls;
    private int tellsCalls;

    public FrameBoard() {
        page = new Page();
        frameText = new FrameText();
        formulaText = new FormulaText();
        frame = new Frame();
        formula = new Formula();
        observations = new Observations();
        savedFrame = new Frame();
        savedObservations = new Observations();
        candidate = new Frame();
        truth = new Truth();
    }

    public int letter(int code) {
        if (code < 32 || code > 126) {
            return OUTSIDE;
        }
        if (page.length() >= MOST_CHARACTERS) {
            return FULL;
        }
        page.write(code);
        return page.length();
    }

    public int blank() {
        int had = page.length();
        page.clear();
        return had;
    }

    public int fault(int what) {
        if (!isBelow(what, 2)) {
            return OUTSIDE;
        }
        return what == 0 ? frameText.firstFault(page) : formulaText.firstFault(page);
    }

    public int frame() {
        if (!frameText.isWhole(page)) {
            return STATE;
        }
        frame.copy(frameText.draft);
        observations.clear();
        page.clear();
        saved = false;
        framesRead++;
        return frame.worlds;
    }

    public int formula() {
        if (!formulaText.isWhole(page)) {
            return STATE;
        }
        formula.read(page);
        page.clear();
        formulasRead++;
        return formula.length();
    }

    public int about(int what) {
        if (!isBelow(what, TOLD_OF_FRAME)) {
            return OUTSIDE;
        }
        if (!hasFrame()) {
            return STATE;
        }
        switch (what) {
            case 0:
                return frame.kind;
            case 1:
                return frame.worlds;
            case 2:
                return frame.arrowCount();
            case 3:
                return toInt(frame.fits(frame.kind));
            default:
                return frame.classes();
        }
    }

    public int as(int kind) {
        if (!isBelow(kind, KINDS)) {
            return OUTSIDE;
        }
        if (!hasFrame()) {
            return STATE;
        }
        return isType(frame.kind, kind) ? frame.kind : NONE;
    }

    public int world(int world, int what) {
        if (!isBelow(world, frame.worlds)) {
            return UNKNOWN;
        }
        if (!isBelow(what, TOLD_OF_WORLD)) {
            return OUTSIDE;
        }
        switch (what) {
            case 0:
                return Integer.bitCount(frame.row(world));
            case 1:
                return frame.arrowsTo(world);
            case 2:
                return frame.marks(world);
            case 3:
                return frame.lowestBisimilar(world);
            case 4:
                return lowestSimilar(world);
            default:
                return hasFormula() ? bit(worldsOf(0), world) : NONE;
        }
    }

    public int arrow(int from, int to) {
        if (!isBelow(from, frame.worlds) || !isBelow(to, frame.worlds)) {
            return UNKNOWN;
        }
        return toInt(frame.has(from, to));
    }

    public int part(int part) {
        if (!isBelow(part, formula.length())) {
            return UNKNOWN;
        }
        if (!hasFrame()) {
            return STATE;
        }
        return worldsOf(part);
    }

    public int sign(int part) {
        if (!isBelow(part, formula.length())) {
            return UNKNOWN;
        }
        return formula.signAt(part);
    }

    public int draw(int from, int to, boolean there) {
        if (!isBelow(from, frame.worlds) || !isBelow(to, frame.worlds)) {
            return UNKNOWN;
        }
        if (frame.has(from, to) == there) {
            return STATE;
        }
        frame.turn(from, to);
        return frame.arrowCount();
    }

    public int mark(int world, int marks) {
        if (!isBelow(world, frame.worlds)) {
            return UNKNOWN;
        }
        if (!isBelow(marks, 4)) {
            return OUTSIDE;
        }
        int before = frame.marks(world);
        frame.setMarks(world, marks);
        return before;
    }

    public int add() {
        if (!hasFrame()) {
            return STATE;
        }
        if (frame.worlds >= MOST_WORLDS) {
            return FULL;
        }
        frame.worlds++;
        return frame.worlds - 1;
    }

    public int take(int world) {
        if (!isBelow(world, frame.worlds)) {
            return UNKNOWN;
        }
        if (frame.worlds == 1) {
            return STATE;
        }
        frame.drop(world);
        return frame.worlds;
    }

    public int be(int kind) {
        if (!isBelow(kind, KINDS)) {
            return OUTSIDE;
        }
        if (!hasFrame()) {
            return STATE;
        }
        int before = frame.kind;
        frame.kind = kind;
        return before;
    }

    public int close() {
        if (!hasFrame()) {
            return STATE;
        }
        int before = frame.arrowCount();
        frame.makeFit();
        return frame.arrowCount() - before;
    }

    public int shrink() {
        if (!hasFrame()) {
            return STATE;
        }
        frame.merge();
        return frame.worlds;
    }

    public int valid() {
        if (!hasFrame() || !hasFormula()) {
            return STATE;
        }
        return toInt(truth.isValid(formula, frame));
    }

    public int fail(int worlds, int what) {
        if (worlds < 1 || worlds > 3 || !isBelow(what, 3)) {
            return OUTSIDE;
        }
        if (!hasFrame() || !hasFormula() || failCalls >= MOST_SEARCHES) {
            return STATE;
        }
        failCalls++;
        int arrowNumber = firstRefuting(worlds);
        if (arrowNumber == NONE || what == 0) {
            return arrowNumber;
        }
        int valuation = lowest(truth.refuting(worlds));
        return what == 1 ? valuation : truth.lowestWithout(valuation, worlds);
    }

    public int tells(int law) {
        if (!isBelow(law, LAWS)) {
            return OUTSIDE;
        }
        if (!hasFormula() || tellsCalls >= MOST_SEARCHES) {
            return STATE;
        }
        tellsCalls++;
        return toInt(defines(law));
    }

    public int keeps(int law) {
        if (!isBelow(law, LAWS)) {
            return OUTSIDE;
        }
        if (!hasFrame()) {
            return STATE;
        }
        return toInt(frame.obeys(law));
    }

    public int see(int what, boolean can) {
        if (!isBelow(what, Observations.THINGS)) {
            return OUTSIDE;
        }
        if (!hasFrame()) {
            return STATE;
        }
        if (observations.number >= Observations.MOST) {
            return FULL;
        }
        observations.note(what, can);
        return observations.number;
    }

    public int forget() {
        int had = observations.number;
        observations.clear();
        return had;
    }

    public int sorts(int what) {
        if (!isBelow(what, 2)) {
            return OUTSIDE;
        }
        return what == 0 ? observations.possible : observations.bestQuestion();
    }

    public int drawn(int times, int seed, int what) {
        if (times < 1 || times > MOST_TIMES || seed < 0 || !isBelow(what, 3)) {
            return OUTSIDE;
        }
        if (!hasFrame() || !hasFormula()) {
            return STATE;
        }
        int end = truth.useDrawn(times, seed, frame.worlds);
        if (what == 2) {
            return end;
        }
        truth.evaluate(formula, frame);
        long lanes = (1L << times) - 1;
        if (what == 1) {
            return Long.bitCount(lanes & ~truth.refuting(frame.worlds));
        }
        return truth.heldIn(lanes, frame.worlds);
    }

    public int image() {
        if (!hasFrame()) {
            return STATE;
        }
        savedFrame.copy(frame);
        savedObservations.copy(observations);
        saved = true;
        return frame.worlds;
    }

    public int restore() {
        if (!saved) {
            return STATE;
        }
        frame.copy(savedFrame);
        observations.copy(savedObservations);
        return frame.worlds;
    }

    public int count(int what) {
        switch (what) {
            case 0:
                return frame.worlds;
            case 1:
                return frame.arrowCount();
            case 2:
                return formula.length();
            case 3:
                return hasFormula() ? Integer.bitCount(worldsOf(0)) : 0;
            case 4:
                return hasFrame() ? lawsObeyed() : 0;
            case 5:
                return observations.number;
            case 6:
                return page.length();
            case 7:
                return framesRead;
            case 8:
                return formulasRead;
            case 9:
                return failCalls;
            case 10:
                return tellsCalls;
            default:
                return OUTSIDE;
        }
    }

    /** In one piece, since helpers of its own would make the chain of calls too deep for rule 11. */
    public long digest() {
        long h = 1481;
        for (int what = 0; hasFrame() && what < TOLD_OF_FRAME; what++) {
            h = 31 * h + about(what);
        }
        for (int a = 0; a < frame.worlds; a++) {
            for (int what = 0; what < TOLD_OF_WORLD; what++) {
                h = 31 * h + world(a, what);
            }
            for (int b = 0; b < frame.worlds; b++) {
                h = 31 * h + arrow(a, b);
            }
        }
        for (int law = 0; hasFrame() && law < LAWS; law++) {
            h = 31 * h + keeps(law);
        }
        if (hasFrame() && hasFormula()) {
            h = 31 * h + valid();
        }
        for (int k = 0; hasFrame() && k < formula.length(); k++) {
            h = 31 * h + part(k);
        }
        for (int k = 0; k < formula.length(); k++) {
            h = 31 * h + sign(k);
        }
        h = 31 * h + sorts(0);
        h = 31 * h + sorts(1);
        for (int i = 0; i < page.length(); i++) {
            h = 31 * h + page.at(i);
        }
        for (int what = 0; what < COUNTS; what++) {
            h = 31 * h + count(what);
        }
        return h;
    }

    private boolean hasFrame() {
        return frame.worlds > 0;
    }

    private boolean hasFormula() {
        return formula.length() > 0;
    }

    /** The set of worlds of the frame in which a part of the formula holds. */
    private int worldsOf(int part) {
        truth.useOwn(frame);
        truth.evaluate(formula, frame);
        int set = 0;
        for (int a = 0; a < frame.worlds; a++) {
            if (truth.at(part, a) != 0) {
                set |= 1 << a;
            }
        }
        return set;
    }

    private int lowestSimilar(int world) {
        if (!hasFormula()) {
            return NONE;
        }
        truth.useOwn(frame);
        truth.evaluate(formula, frame);
        for (int a = 0; a < world; a++) {
            if (truth.agree(formula, a, world)) {
                return a;
            }
        }
        return world;
    }

    /** The arrow number of the first frame that refutes the formula; its evaluation stays in truth. */
    private int firstRefuting(int worlds) {
        int frames = 1 << (worlds * worlds);
        for (int number = 0; number < frames; number++) {
            candidate.build(worlds, number);
            if (candidate.fits(frame.kind) && !truth.isValid(formula, candidate)) {
                return number;
            }
        }
        return NONE;
    }

    private boolean defines(int law) {
        int frames = 1 << (3 * 3);
        for (int number = 0; number < frames; number++) {
            candidate.build(3, number);
            if (candidate.obeys(law) != truth.isValid(formula, candidate)) {
                return false;
            }
        }
        return true;
    }

    private int lawsObeyed() {
        int number = 0;
        for (int law = 0; law < LAWS; law++) {
            if (frame.obeys(law)) {
                number++;
            }
        }
        return number;
    }

    /** Preorder (2) is the one kind below another one than all frames (0): reflexive (1). */
    private static boolean isType(int kind, int type) {
        return type == 0 || type == kind || (kind == 2 && type == 1);
    }

    private static boolean isBelow(int value, int bound) {
        return value >= 0 && value < bound;
    }

    private static int toInt(boolean value) {
        return value ? 1 : 0;
    }

    private static int bit(int set, int item) {
        return (set >> item) & 1;
    }

    /** The lowest item of a set that is not empty: as many items lie below its lowest bit. */
    private static int lowest(long set) {
        return Long.bitCount((set & -set) - 1);
    }

    /** The characters that have been written and not been read yet. */
    private static final class Page {
        private final int[] codes = new int[MOST_CHARACTERS];
        private int length;

        int length() {
            return length;
        }

        void write(int code) {
            if (isBelow(length, codes.length)) {
                codes[length] = code;
                length++;
            }
        }

        int at(int index) {
            return isBelow(index, codes.length) ? codes[index] : NONE;
        }

        void clear() {
            length = 0;
        }
    }

    /** A kind of text, read from the page character by character. */
    private abstract static class Text {
        abstract void begin();

        /** Reads a character if it can stand behind those that have been read. */
        abstract boolean reads(int code);

        abstract boolean isComplete();

        int firstFault(Page page) {
            begin();
            for (int i = 0; i < page.length(); i++) {
                if (!reads(page.at(i))) {
                    return i;
                }
            }
            return page.length();
        }

        boolean isWhole(Page page) {
            return firstFault(page) == page.length() && isComplete();
        }
    }

    /** The text of a frame; what has been read of it stands in the draft. */
    private static final class FrameText extends Text {
        private static final int KIND = 0;
        private static final int SIZE = 1;
        private static final int COLON = 2;
        private static final int FIRST_FROM = 3;
        private static final int NEXT_FROM = 4;
        private static final int TO = 5;
        private static final int BEHIND_ARROW = 6;
        private static final int P = 7;
        private static final int P_WORLDS = 8;
        private static final int Q_WORLDS = 9;

        final Frame draft = new Frame();
        private int place;
        private int from;
        private int leastWorld;

        void begin() {
            draft.build(0, 0);
            place = KIND;
        }

        boolean isComplete() {
            return place == Q_WORLDS;
        }

        boolean reads(int code) {
            switch (place) {
                case KIND:
                    return readsKind(code);
                case SIZE:
                    return readsSize(code);
                case COLON:
                    return readsSign(code, ':', FIRST_FROM);
                case FIRST_FROM:
                    return readsFrom(code) || readsSign(code, ';', P);
                case NEXT_FROM:
                    return readsFrom(code);
                case TO:
                    return readsTo(code);
                case BEHIND_ARROW:
                    return readsSign(code, ',', NEXT_FROM) || readsSign(code, ';', P);
                case P:
                    return readsSign(code, 'p', P_WORLDS);
                case P_WORLDS:
                    return readsMarked(code, 1) || readsSign(code, 'q', Q_WORLDS);
                default:
                    return readsMarked(code, 2);
            }
        }

        private boolean readsKind(int code) {
            int kind = kindOf(code);
            if (kind == NONE) {
                return false;
            }
            draft.kind = kind;
            place = SIZE;
            return true;
        }

        private static int kindOf(int code) {
            switch (code) {
                case 'k':
                    return 0;
                case 't':
                    return 1;
                case 's':
                    return 2;
                case 'y':
                    return 3;
                case 'd':
                    return 4;
                default:
                    return NONE;
            }
        }

        private boolean readsSize(int code) {
            int worlds = code - '0';
            if (worlds < 1 || worlds > MOST_WORLDS) {
                return false;
            }
            draft.worlds = worlds;
            place = COLON;
            return true;
        }

        private boolean readsSign(int code, int sign, int next) {
            if (code != sign) {
                return false;
            }
            leastWorld = 0;
            place = next;
            return true;
        }

        private boolean readsFrom(int code) {
            int world = code - '0';
            if (!isBelow(world, draft.worlds)) {
                return false;
            }
            from = world;
            place = TO;
            return true;
        }

        private boolean readsTo(int code) {
            int to = code - '0';
            if (!isBelow(to, draft.worlds) || draft.has(from, to)) {
                return false;
            }
            draft.turn(from, to);
            place = BEHIND_ARROW;
            return true;
        }

        private boolean readsMarked(int code, int mark) {
            int world = code - '0';
            if (world < leastWorld || world >= draft.worlds) {
                return false;
            }
            draft.setMarks(world, draft.marks(world) | mark);
            leastWorld = world + 1;
            return true;
        }
    }

    /** The text of a formula: how many signs are read, and how many formulas are still due behind them. */
    private static final class FormulaText extends Text {
        private int read;
        private int due;

        void begin() {
            read = 0;
            due = 1;
        }

        boolean isComplete() {
            return due == 0;
        }

        boolean reads(int code) {
            int operands = Formula.operands(code);
            if (operands == NONE || due == 0) {
                return false;
            }
            int dueThen = due - 1 + operands;
            if (read + 1 + dueThen > MOST_SIGNS) {
                return false;
            }
            read++;
            due = dueThen;
            return true;
        }
    }

    /** A frame; one without worlds stands for none. The arrow from a to b is bit 4 * a + b of arrows. */
    private static final class Frame {
        private static final int ALL_WORLDS = (1 << MOST_WORLDS) - 1;

        int kind;
        int worlds;
        private int arrows;
        private int p;
        private int q;

        void copy(Frame other) {
            kind = other.kind;
            worlds = other.worlds;
            arrows = other.arrows;
            p = other.p;
            q = other.q;
        }

        /** Makes it the frame of kind 0 with this arrow number, in which neither p nor q holds. */
        void build(int size, int arrowNumber) {
            kind = 0;
            worlds = size;
            arrows = 0;
            p = 0;
            q = 0;
            for (int a = 0; a < size; a++) {
                join(a, (arrowNumber >> (size * a)) & ((1 << size) - 1));
            }
        }

        /** The set of worlds to which an arrow leads from a. */
        int row(int a) {
            return (arrows >> (MOST_WORLDS * a)) & ALL_WORLDS;
        }

        private static int rowOf(int relation, int a) {
            return (relation >> (MOST_WORLDS * a)) & ALL_WORLDS;
        }

        private static int pair(int a, int b) {
            return 1 << (MOST_WORLDS * a + b);
        }

        boolean has(int a, int b) {
            return ((arrows >> (MOST_WORLDS * a + b)) & 1) == 1;
        }

        /** Adds the arrow if it is not there, and removes it if it is. */
        void turn(int a, int b) {
            arrows ^= pair(a, b);
        }

        /** Adds arrows from a to all worlds of a set. */
        private void join(int a, int set) {
            arrows |= set << (MOST_WORLDS * a);
        }

        int arrowCount() {
            return Integer.bitCount(arrows);
        }

        int arrowsTo(int b) {
            int number = 0;
            for (int a = 0; a < worlds; a++) {
                number += bit(row(a), b);
            }
            return number;
        }

        int marks(int a) {
            return bit(p, a) + 2 * bit(q, a);
        }

        void setMarks(int a, int marks) {
            p = (p & ~(1 << a)) | (bit(marks, 0) << a);
            q = (q & ~(1 << a)) | (bit(marks, 1) << a);
        }

        boolean fits(int type) {
            switch (type) {
                case 0:
                    return true;
                case 1:
                    return obeys(0);
                case 2:
                    return obeys(0) && obeys(1);
                case 3:
                    return obeys(2);
                default:
                    return obeys(3);
            }
        }

        boolean obeys(int law) {
            for (int a = 0; a < worlds; a++) {
                if (!obeysAt(law, a)) {
                    return false;
                }
            }
            return true;
        }

        private boolean obeysAt(int law, int a) {
            if (law == 0) {
                return has(a, a);
            }
            if (law == 3) {
                return row(a) != 0;
            }
            for (int b = 0; b < worlds; b++) {
                if (has(a, b) && !obeysAlong(law, a, b)) {
                    return false;
                }
            }
            return true;
        }

        /** Whether laws 1, 2 or 4 hold as far as they speak of the arrow from a to b. */
        private boolean obeysAlong(int law, int a, int b) {
            switch (law) {
                case 1:
                    return (row(b) & ~row(a)) == 0;
                case 2:
                    return has(b, a);
                default:
                    return (row(a) & ~row(b)) == 0;
            }
        }

        void makeFit() {
            for (int a = 0; a < worlds; a++) {
                if (kind == 1 || kind == 2 || (kind == 4 && row(a) == 0)) {
                    join(a, 1 << a);
                }
            }
            if (kind == 2) {
                makeTransitive();
            }
            if (kind == 3) {
                makeSymmetric();
            }
        }

        /** One pass is enough because the world in the middle runs in the outer loop. */
        private void makeTransitive() {
            for (int b = 0; b < worlds; b++) {
                for (int a = 0; a < worlds; a++) {
                    if (has(a, b)) {
                        join(a, row(b));
                    }
                }
            }
        }

        private void makeSymmetric() {
            for (int a = 0; a < worlds; a++) {
                for (int b = 0; b < worlds; b++) {
                    if (has(a, b)) {
                        join(b, 1 << a);
                    }
                }
            }
        }

        /** Removes a world with its arrows; those behind it move up. */
        void drop(int world) {
            int left = 0;
            for (int a = 0; a < worlds; a++) {
                if (a != world) {
                    int place = a < world ? a : a - 1;
                    left |= without(row(a), world) << (MOST_WORLDS * place);
                }
            }
            arrows = left;
            p = without(p, world);
            q = without(q, world);
            worlds--;
        }

        private static int without(int set, int world) {
            int below = (1 << world) - 1;
            return (set & below) | ((set >> 1) & ~below);
        }

        /** Bends the arrows to the lowest worlds of the classes, then drops the others, from the last one on. */
        void merge() {
            int alike = bisimilarity();
            for (int a = 0; a < worlds; a++) {
                for (int b = 0; b < worlds; b++) {
                    if (has(a, b)) {
                        join(a, 1 << lowest(rowOf(alike, b)));
                    }
                }
            }
            for (int a = worlds - 1; a >= 0; a--) {
                if (lowest(rowOf(alike, a)) != a) {
                    drop(a);
                }
            }
        }

        int classes() {
            int alike = bisimilarity();
            int number = 0;
            for (int a = 0; a < worlds; a++) {
                if (lowest(rowOf(alike, a)) == a) {
                    number++;
                }
            }
            return number;
        }

        int lowestBisimilar(int world) {
            return lowest(rowOf(bisimilarity(), world));
        }

        /**
         * The pairs a, b of bisimilar worlds, as the bits 4 * a + b.
         * A round that distinguishes anything splits a class, so as many rounds as worlds are enough.
         */
        private int bisimilarity() {
            int alike = sameMarks();
            for (int round = 0; round < worlds; round++) {
                alike = refined(alike);
            }
            return alike;
        }

        private int sameMarks() {
            int alike = 0;
            for (int a = 0; a < worlds; a++) {
                for (int b = 0; b < worlds; b++) {
                    if (marks(a) == marks(b)) {
                        alike |= pair(a, b);
                    }
                }
            }
            return alike;
        }

        private int refined(int alike) {
            int left = 0;
            for (int a = 0; a < worlds; a++) {
                for (int b = 0; b < worlds; b++) {
                    boolean matched = isMatched(alike, a, b) && isMatched(alike, b, a);
                    if (matched && bit(rowOf(alike, a), b) == 1) {
                        left |= pair(a, b);
                    }
                }
            }
            return left;
        }

        /** Whether for each arrow from a there is one from b to a world that is alike. */
        private boolean isMatched(int alike, int a, int b) {
            for (int to = 0; to < worlds; to++) {
                if (has(a, to) && (row(b) & rowOf(alike, to)) == 0) {
                    return false;
                }
            }
            return true;
        }
    }

    /** A formula; one without signs stands for none. */
    private static final class Formula {
        private final int[] signs = new int[MOST_SIGNS];
        private final int[] ends = new int[MOST_SIGNS];
        private int length;

        /** How many formulas a sign takes, or NONE if it is no sign. */
        static int operands(int code) {
            switch (code) {
                case 'p':
                case 'q':
                    return 0;
                case '~':
                case 'N':
                case 'M':
                    return 1;
                case '&':
                case '|':
                case '>':
                    return 2;
                default:
                    return NONE;
            }
        }

        int length() {
            return length;
        }

        int signAt(int part) {
            return isBelow(part, signs.length) ? signs[part] : NONE;
        }

        /** The index of the sign behind a part. */
        int end(int part) {
            return isBelow(part, ends.length) ? ends[part] : length;
        }

        /** Reads a page that holds a correct and complete formula. */
        void read(Page page) {
            length = page.length();
            for (int i = 0; i < signs.length; i++) {
                signs[i] = page.at(i);
            }
            for (int i = ends.length - 1; i >= 0; i--) {
                ends[i] = endFrom(i);
            }
        }

        /** The ends of the parts behind this one are known already. */
        private int endFrom(int part) {
            int end = part + 1;
            int operands = operands(signAt(part));
            for (int i = 0; i < operands; i++) {
                end = end(end);
            }
            return end;
        }
    }

    /**
     * The truth of all parts of a formula in all worlds of a frame, under up to 64 valuations at once:
     * bit k of each long, its lane k, stands for the valuation k.
     */
    private static final class Truth {
        /** Lane k of the row j is bit j of the number k. */
        private static final long[] LANES_OF_BIT = {
            0xAAAAAAAAAAAAAAAAL, 0xCCCCCCCCCCCCCCCCL, 0xF0F0F0F0F0F0F0F0L,
            0xFF00FF00FF00FF00L, 0xFFFF0000FFFF0000L, 0xFFFFFFFF00000000L};

        private final long[] p = new long[MOST_WORLDS];
        private final long[] q = new long[MOST_WORLDS];
        private final long[] held = new long[MOST_SIGNS * MOST_WORLDS];

        /** Takes the valuation of the frame in all lanes. */
        void useOwn(Frame frame) {
            for (int a = 0; a < MOST_WORLDS; a++) {
                int marks = frame.marks(a);
                setLetters(a, allLanes(bit(marks, 0)), allLanes(bit(marks, 1)));
            }
        }

        /** Takes the valuations with the numbers from 64 * block on; with fewer than 64, they repeat. */
        private void useBlock(int block, int worlds) {
            for (int a = 0; a < worlds; a++) {
                setLetters(a, lanesOfBit(a, block), lanesOfBit(worlds + a, block));
            }
        }

        /** Draws a valuation for each of the first lanes; returns the state at the end. */
        int useDrawn(int times, int seed, int worlds) {
            for (int a = 0; a < MOST_WORLDS; a++) {
                setLetters(a, 0, 0);
            }
            int x = seed;
            for (int lane = 0; lane < times; lane++) {
                for (int a = 0; a < worlds; a++) {
                    x = (1103515245 * x + 12345) & 0x7FFFFFFF;
                    addLetters(a, (x >> 16) & 3, lane);
                }
            }
            return x;
        }

        private static long allLanes(int value) {
            return value == 0 ? 0L : -1L;
        }

        private static long lanesOfBit(int index, int block) {
            if (isBelow(index, LANES_OF_BIT.length)) {
                return LANES_OF_BIT[index];
            }
            return allLanes(bit(block, index - LANES_OF_BIT.length));
        }

        private void setLetters(int world, long lanesOfP, long lanesOfQ) {
            if (isBelow(world, p.length) && isBelow(world, q.length)) {
                p[world] = lanesOfP;
                q[world] = lanesOfQ;
            }
        }

        private void addLetters(int world, int marks, int lane) {
            if (isBelow(world, p.length) && isBelow(world, q.length)) {
                p[world] |= (long) bit(marks, 0) << lane;
                q[world] |= (long) bit(marks, 1) << lane;
            }
        }

        /** Whether the formula holds everywhere under all valuations; stops at the first block with a failure. */
        boolean isValid(Formula formula, Frame frame) {
            int blocks = frame.worlds < MOST_WORLDS ? 1 : 4;
            for (int block = 0; block < blocks; block++) {
                useBlock(block, frame.worlds);
                evaluate(formula, frame);
                if (refuting(frame.worlds) != 0) {
                    return false;
                }
            }
            return true;
        }

        /** Goes from the last part to the first, since a part stands before its operands. */
        void evaluate(Formula formula, Frame frame) {
            for (int part = formula.length() - 1; part >= 0; part--) {
                for (int a = 0; a < frame.worlds; a++) {
                    set(part, a, lanesOf(formula, frame, part, a));
                }
            }
        }

        private long lanesOf(Formula formula, Frame frame, int part, int a) {
            int first = part + 1;
            switch (formula.signAt(part)) {
                case 'p':
                    return isBelow(a, p.length) ? p[a] : 0;
                case 'q':
                    return isBelow(a, q.length) ? q[a] : 0;
                case '~':
                    return ~at(first, a);
                case '&':
                    return at(first, a) & at(formula.end(first), a);
                case '|':
                    return at(first, a) | at(formula.end(first), a);
                case '>':
                    return ~at(first, a) | at(formula.end(first), a);
                case 'N':
                    return inAll(first, frame.row(a));
                default:
                    return inSome(first, frame.row(a));
            }
        }

        private long inAll(int part, int set) {
            long lanes = -1L;
            for (int a = 0; a < MOST_WORLDS; a++) {
                if (bit(set, a) == 1) {
                    lanes &= at(part, a);
                }
            }
            return lanes;
        }

        private long inSome(int part, int set) {
            long lanes = 0L;
            for (int a = 0; a < MOST_WORLDS; a++) {
                if (bit(set, a) == 1) {
                    lanes |= at(part, a);
                }
            }
            return lanes;
        }

        /** The lanes in which a part holds in a world. */
        long at(int part, int world) {
            int index = MOST_WORLDS * part + world;
            return index >= 0 && index < held.length ? held[index] : 0;
        }

        private void set(int part, int world, long lanes) {
            int index = MOST_WORLDS * part + world;
            if (isBelow(index, held.length)) {
                held[index] = lanes;
            }
        }

        /** The lanes in which the formula fails in some world. */
        long refuting(int worlds) {
            long lanes = 0;
            for (int a = 0; a < worlds; a++) {
                lanes |= ~at(0, a);
            }
            return lanes;
        }

        int lowestWithout(int lane, int worlds) {
            for (int a = 0; a < worlds; a++) {
                if (((at(0, a) >> lane) & 1) == 0) {
                    return a;
                }
            }
            return NONE;
        }

        /** In how many worlds the formula holds, added up over some lanes. */
        int heldIn(long lanes, int worlds) {
            int number = 0;
            for (int a = 0; a < worlds; a++) {
                number += Long.bitCount(at(0, a) & lanes);
            }
            return number;
        }

        /** Whether exactly the same parts hold in two worlds, in all lanes. */
        boolean agree(Formula formula, int a, int b) {
            for (int part = 0; part < formula.length(); part++) {
                if (at(part, a) != at(part, b)) {
                    return false;
                }
            }
            return true;
        }
    }

    /** What is known of the unknown kind. */
    private static final class Observations {
        static final int MOST = 6;
        static final int THINGS = 4;
        private static final int ALL_KINDS = (1 << KINDS) - 1;
        /** For each thing, the set of kinds whose frames can contain it. */
        private static final int[] KINDS_WITH = {0b01001, 0b11001, 0b10111, 0b11011};

        int number;
        int possible = ALL_KINDS;

        void clear() {
            number = 0;
            possible = ALL_KINDS;
        }

        void copy(Observations other) {
            number = other.number;
            possible = other.possible;
        }

        void note(int thing, boolean can) {
            number++;
            possible &= can ? kindsWith(thing) : ~kindsWith(thing);
        }

        private static int kindsWith(int thing) {
            return isBelow(thing, KINDS_WITH.length) ? KINDS_WITH[thing] : 0;
        }

        int bestQuestion() {
            int best = NONE;
            int fewest = possible == 0 ? 0 : KINDS + 1;
            for (int thing = 0; thing < THINGS; thing++) {
                if (leftAtWorst(thing) < fewest) {
                    fewest = leftAtWorst(thing);
                    best = thing;
                }
            }
            return best;
        }

        private int leftAtWorst(int thing) {
            int with = Integer.bitCount(possible & kindsWith(thing));
            return Math.max(with, Integer.bitCount(possible) - with);
        }
    }
}
