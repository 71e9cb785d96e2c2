import java.util.ArrayList;
import java.util.List;
import java.util.regex.Matcher;
import java.util.regex.Pattern;

/** The document said again in the slowest and plainest way, to be asked the same calls as FrameBoard. */
final class Model {
    static final int NONE = -1, UNKNOWN = -101, OUTSIDE = -102, STATE = -103, FULL = -104;
    private static final String KIND_LETTERS = "ktsyd";
    private static final Pattern FRAME_TEXT = Pattern.compile("[ktsyd]("
        + "1:(00(,00)*)?;p0?q0?"
        + "|2:([01][01](,[01][01])*)?;p0?1?q0?1?"
        + "|3:([0-2][0-2](,[0-2][0-2])*)?;p0?1?2?q0?1?2?"
        + "|4:([0-3][0-3](,[0-3][0-3])*)?;p0?1?2?3?q0?1?2?3?)");
    private static final boolean[][] KIND_CAN = {
        {true, false, false, true, false},
        {true, false, false, true, true},
        {true, true, true, false, true},
        {true, true, false, true, true},
    };

    /** A frame that never changes. */
    static final class Shape {
        final int kind;
        final boolean[][] to;
        final boolean[] p;
        final boolean[] q;

        Shape(int kind, boolean[][] to, boolean[] p, boolean[] q) {
            this.kind = kind;
            this.to = to;
            this.p = p;
            this.q = q;
        }

        int size() {
            return p.length;
        }

        boolean[][] arrows() {
            boolean[][] copy = new boolean[size()][];
            for (int a = 0; a < size(); a++) {
                copy[a] = to[a].clone();
            }
            return copy;
        }

        int arrowCount() {
            int number = 0;
            for (boolean[] row : to) {
                for (boolean there : row) {
                    number += there ? 1 : 0;
                }
            }
            return number;
        }

        boolean law(int law) {
            int n = size();
            for (int a = 0; a < n; a++) {
                boolean any = false;
                for (int b = 0; b < n; b++) {
                    any |= to[a][b];
                    if (law == 2 && to[a][b] && !to[b][a]) {
                        return false;
                    }
                    for (int c = 0; c < n; c++) {
                        if (law == 1 && to[a][b] && to[b][c] && !to[a][c]) {
                            return false;
                        }
                        if (law == 4 && to[a][b] && to[a][c] && !to[b][c]) {
                            return false;
                        }
                    }
                }
                if ((law == 0 && !to[a][a]) || (law == 3 && !any)) {
                    return false;
                }
            }
            return true;
        }

        boolean fits(int type) {
            return type == 0
                || (type == 1 && law(0))
                || (type == 2 && law(0) && law(1))
                || (type == 3 && law(2))
                || (type == 4 && law(3));
        }

        boolean[][] distinguished() {
            int n = size();
            boolean[][] apart = new boolean[n][n];
            for (int a = 0; a < n; a++) {
                for (int b = 0; b < n; b++) {
                    apart[a][b] = p[a] != p[b] || q[a] != q[b];
                }
            }
            boolean changed = true;
            while (changed) {
                changed = false;
                for (int a = 0; a < n; a++) {
                    for (int b = 0; b < n; b++) {
                        if (!apart[a][b] && (lacks(apart, a, b) || lacks(apart, b, a))) {
                            apart[a][b] = true;
                            changed = true;
                        }
                    }
                }
            }
            return apart;
        }

        private boolean lacks(boolean[][] apart, int a, int b) {
            for (int c = 0; c < size(); c++) {
                if (to[a][c]) {
                    boolean found = false;
                    for (int d = 0; d < size(); d++) {
                        found |= to[b][d] && !apart[c][d];
                    }
                    if (!found) {
                        return true;
                    }
                }
            }
            return false;
        }

        int lowestBisimilar(int world) {
            boolean[][] apart = distinguished();
            int a = 0;
            while (apart[a][world]) {
                a++;
            }
            return a;
        }

        /** The same with the valuation of a number. */
        Shape marked(long valuationNumber) {
            Shape other = numbered(kind, size(), 0, valuationNumber);
            return new Shape(kind, to, other.p, other.q);
        }

        /** Of the worlds that a list names, in its order; arrows and marks go along. */
        Shape only(List<Integer> worlds, boolean[][] arrows) {
            int n = worlds.size();
            boolean[][] rows = new boolean[n][n];
            boolean[] inP = new boolean[n];
            boolean[] inQ = new boolean[n];
            for (int a = 0; a < n; a++) {
                inP[a] = p[worlds.get(a)];
                inQ[a] = q[worlds.get(a)];
                for (int b = 0; b < n; b++) {
                    rows[a][b] = arrows[worlds.get(a)][worlds.get(b)];
                }
            }
            return new Shape(kind, rows, inP, inQ);
        }
    }

    static Shape numbered(int kind, int n, long arrowNumber, long valuationNumber) {
        boolean[][] to = new boolean[n][n];
        boolean[] p = new boolean[n];
        boolean[] q = new boolean[n];
        for (int a = 0; a < n; a++) {
            p[a] = (valuationNumber / (1L << a)) % 2 == 1;
            q[a] = (valuationNumber / (1L << (n + a))) % 2 == 1;
            for (int b = 0; b < n; b++) {
                to[a][b] = (arrowNumber / (1L << (n * a + b))) % 2 == 1;
            }
        }
        return new Shape(kind, to, p, q);
    }

    private String page = "";
    private Shape frame = null;
    private String formula = "";
    private List<int[]> seen = new ArrayList<>();
    private Shape savedFrame = null;
    private List<int[]> savedSeen = null;
    private int frames = 0, formulas = 0, fails = 0, tellings = 0;

    int letter(int code) {
        if (code < 32 || code > 126) {
            return OUTSIDE;
        }
        if (page.length() == 66) {
            return FULL;
        }
        page += (char) code;
        return page.length();
    }

    int blank() {
        int had = page.length();
        page = "";
        return had;
    }

    int fault(int what) {
        if (what != 0 && what != 1) {
            return OUTSIDE;
        }
        for (int i = 0; i < page.length(); i++) {
            String start = page.substring(0, i + 1);
            if (what == 0 ? !beginsFrame(start) : !beginsFormula(start)) {
                return i;
            }
        }
        return page.length();
    }

    static boolean beginsFrame(String text) {
        Matcher matcher = FRAME_TEXT.matcher(text);
        return (matcher.matches() || matcher.hitEnd()) && !givesTwice(text);
    }

    private static boolean givesTwice(String text) {
        int end = text.indexOf(';') < 0 ? text.length() : text.indexOf(';');
        if (end < 3) {
            return false;
        }
        List<String> pairs = new ArrayList<>();
        for (String pair : text.substring(3, end).split(",")) {
            if (pair.length() == 2 && pairs.contains(pair)) {
                return true;
            }
            pairs.add(pair);
        }
        return false;
    }

    static boolean isFrame(String text) {
        return FRAME_TEXT.matcher(text).matches() && !givesTwice(text);
    }

    static boolean beginsFormula(String text) {
        for (String longer = text; longer.length() <= 16; longer += "p") {
            if (isFormula(longer)) {
                return true;
            }
        }
        return false;
    }

    static boolean isFormula(String text) {
        return text.length() <= 16 && endOf(text, 0) == text.length();
    }

    /** The index behind the formula that begins at an index, or -1 if none does. */
    private static int endOf(String text, int at) {
        if (at < 0 || at >= text.length()) {
            return -1;
        }
        char sign = text.charAt(at);
        if (sign == 'p' || sign == 'q') {
            return at + 1;
        }
        if ("~NM".indexOf(sign) >= 0) {
            return endOf(text, at + 1);
        }
        return "&|>".indexOf(sign) >= 0 ? endOf(text, endOf(text, at + 1)) : -1;
    }

    int frame() {
        if (!isFrame(page)) {
            return STATE;
        }
        int n = page.charAt(1) - '0';
        boolean[][] to = new boolean[n][n];
        boolean[] p = new boolean[n];
        boolean[] q = new boolean[n];
        String arrows = page.substring(3, page.indexOf(';'));
        if (!arrows.isEmpty()) {
            for (String pair : arrows.split(",")) {
                to[pair.charAt(0) - '0'][pair.charAt(1) - '0'] = true;
            }
        }
        String marks = page.substring(page.indexOf(';'));
        for (int a = 0; a < n; a++) {
            p[a] = marks.substring(0, marks.indexOf('q')).indexOf('0' + a) >= 0;
            q[a] = marks.substring(marks.indexOf('q')).indexOf('0' + a) >= 0;
        }
        frame = new Shape(KIND_LETTERS.indexOf(page.charAt(0)), to, p, q);
        seen.clear();
        savedFrame = null;
        page = "";
        frames++;
        return n;
    }

    int formula() {
        if (!isFormula(page)) {
            return STATE;
        }
        formula = page;
        page = "";
        formulas++;
        return formula.length();
    }

    int about(int what) {
        if (what < 0 || what > 4) {
            return OUTSIDE;
        }
        if (frame == null) {
            return STATE;
        }
        int classes = 0;
        for (int a = 0; a < frame.size(); a++) {
            classes += frame.lowestBisimilar(a) == a ? 1 : 0;
        }
        return new int[] {frame.kind, frame.size(), frame.arrowCount(), frame.fits(frame.kind) ? 1 : 0, classes}[what];
    }

    int as(int kind) {
        if (kind < 0 || kind > 4) {
            return OUTSIDE;
        }
        if (frame == null) {
            return STATE;
        }
        for (int type = frame.kind; type != NONE; type = new int[] {NONE, 0, 1, 0, 0}[type]) {
            if (type == kind) {
                return frame.kind;
            }
        }
        return NONE;
    }

    private boolean noWorld(int world) {
        return frame == null || world < 0 || world >= frame.size();
    }

    int world(int world, int what) {
        if (noWorld(world)) {
            return UNKNOWN;
        }
        int number = 0;
        switch (what) {
            case 0:
                for (int b = 0; b < frame.size(); b++) {
                    number += frame.to[world][b] ? 1 : 0;
                }
                return number;
            case 1:
                for (int a = 0; a < frame.size(); a++) {
                    number += frame.to[a][world] ? 1 : 0;
                }
                return number;
            case 2:
                return (frame.p[world] ? 1 : 0) + (frame.q[world] ? 2 : 0);
            case 3:
                return frame.lowestBisimilar(world);
            case 4:
                return formula.isEmpty() ? NONE : lowestSimilar(world);
            case 5:
                return formula.isEmpty() ? NONE : holds(frame, formula, 0, world) ? 1 : 0;
            default:
                return OUTSIDE;
        }
    }

    private int lowestSimilar(int world) {
        for (int a = 0; a < world; a++) {
            boolean same = true;
            for (int k = 0; k < formula.length(); k++) {
                same &= holds(frame, formula, k, a) == holds(frame, formula, k, world);
            }
            if (same) {
                return a;
            }
        }
        return world;
    }

    static boolean holds(Shape shape, String formula, int part, int world) {
        switch (formula.charAt(part)) {
            case 'p':
                return shape.p[world];
            case 'q':
                return shape.q[world];
            case '~':
                return !holds(shape, formula, part + 1, world);
            case '&':
                return holds(shape, formula, part + 1, world)
                    && holds(shape, formula, endOf(formula, part + 1), world);
            case '|':
                return holds(shape, formula, part + 1, world)
                    || holds(shape, formula, endOf(formula, part + 1), world);
            case '>':
                return !holds(shape, formula, part + 1, world)
                    || holds(shape, formula, endOf(formula, part + 1), world);
            default:
                boolean all = formula.charAt(part) == 'N';
                for (int b = 0; b < shape.size(); b++) {
                    if (shape.to[world][b] && holds(shape, formula, part + 1, b) != all) {
                        return !all;
                    }
                }
                return all;
        }
    }

    int arrow(int from, int to) {
        return noWorld(from) || noWorld(to) ? UNKNOWN : frame.to[from][to] ? 1 : 0;
    }

    int part(int part) {
        if (part < 0 || part >= formula.length()) {
            return UNKNOWN;
        }
        if (frame == null) {
            return STATE;
        }
        int set = 0;
        for (int a = 0; a < frame.size(); a++) {
            set += holds(frame, formula, part, a) ? 1 << a : 0;
        }
        return set;
    }

    int sign(int part) {
        return part < 0 || part >= formula.length() ? UNKNOWN : formula.charAt(part);
    }

    int draw(int from, int to, boolean there) {
        if (noWorld(from) || noWorld(to)) {
            return UNKNOWN;
        }
        if (frame.to[from][to] == there) {
            return STATE;
        }
        boolean[][] arrows = frame.arrows();
        arrows[from][to] = there;
        frame = new Shape(frame.kind, arrows, frame.p, frame.q);
        return frame.arrowCount();
    }

    int mark(int world, int marks) {
        if (noWorld(world)) {
            return UNKNOWN;
        }
        if (marks < 0 || marks > 3) {
            return OUTSIDE;
        }
        int before = world(world, 2);
        boolean[] p = frame.p.clone();
        boolean[] q = frame.q.clone();
        p[world] = marks == 1 || marks == 3;
        q[world] = marks == 2 || marks == 3;
        frame = new Shape(frame.kind, frame.to, p, q);
        return before;
    }

    int add() {
        if (frame == null) {
            return STATE;
        }
        int n = frame.size();
        if (n == 4) {
            return FULL;
        }
        boolean[][] arrows = new boolean[n + 1][n + 1];
        boolean[] p = new boolean[n + 1];
        boolean[] q = new boolean[n + 1];
        for (int a = 0; a < n; a++) {
            p[a] = frame.p[a];
            q[a] = frame.q[a];
            for (int b = 0; b < n; b++) {
                arrows[a][b] = frame.to[a][b];
            }
        }
        frame = new Shape(frame.kind, arrows, p, q);
        return n;
    }

    int take(int world) {
        if (noWorld(world)) {
            return UNKNOWN;
        }
        if (frame.size() == 1) {
            return STATE;
        }
        List<Integer> left = new ArrayList<>();
        for (int a = 0; a < frame.size(); a++) {
            if (a != world) {
                left.add(a);
            }
        }
        frame = frame.only(left, frame.to);
        return frame.size();
    }

    int be(int kind) {
        if (kind < 0 || kind > 4) {
            return OUTSIDE;
        }
        if (frame == null) {
            return STATE;
        }
        int before = frame.kind;
        frame = new Shape(kind, frame.to, frame.p, frame.q);
        return before;
    }

    /** Adds the arrows that the kind wants, one after the other, until it wants no more. */
    int close() {
        if (frame == null) {
            return STATE;
        }
        int added = 0;
        while (!frame.fits(frame.kind)) {
            boolean[][] arrows = frame.arrows();
            int[] missing = missing();
            arrows[missing[0]][missing[1]] = true;
            frame = new Shape(frame.kind, arrows, frame.p, frame.q);
            added++;
        }
        return added;
    }

    private int[] missing() {
        for (int a = 0; a < frame.size(); a++) {
            if (!frame.to[a][a] && (frame.kind == 1 || frame.kind == 2 || (frame.kind == 4 && world(a, 0) == 0))) {
                return new int[] {a, a};
            }
            for (int b = 0; b < frame.size(); b++) {
                if (frame.kind == 3 && frame.to[a][b] && !frame.to[b][a]) {
                    return new int[] {b, a};
                }
                for (int c = 0; c < frame.size(); c++) {
                    if (frame.kind == 2 && frame.to[a][b] && frame.to[b][c] && !frame.to[a][c]) {
                        return new int[] {a, c};
                    }
                }
            }
        }
        throw new IllegalStateException("nothing is missing");
    }

    int shrink() {
        if (frame == null) {
            return STATE;
        }
        List<Integer> lowest = new ArrayList<>();
        boolean[][] arrows = new boolean[frame.size()][frame.size()];
        for (int a = 0; a < frame.size(); a++) {
            if (frame.lowestBisimilar(a) == a) {
                lowest.add(a);
            }
            for (int b = 0; b < frame.size(); b++) {
                if (frame.to[a][b]) {
                    arrows[a][frame.lowestBisimilar(b)] = true;
                }
            }
        }
        frame = frame.only(lowest, arrows);
        return frame.size();
    }

    static boolean isValid(Shape shape, String formula) {
        for (int valuation = 0; valuation < 1 << (2 * shape.size()); valuation++) {
            if (failure(shape.marked(valuation), formula) != NONE) {
                return false;
            }
        }
        return true;
    }

    static int failure(Shape shape, String formula) {
        for (int a = 0; a < shape.size(); a++) {
            if (!holds(shape, formula, 0, a)) {
                return a;
            }
        }
        return NONE;
    }

    int valid() {
        return frame == null || formula.isEmpty() ? STATE : isValid(frame, formula) ? 1 : 0;
    }

    int fail(int worlds, int what) {
        if (worlds < 1 || worlds > 3 || what < 0 || what > 2) {
            return OUTSIDE;
        }
        if (frame == null || formula.isEmpty() || fails == 12) {
            return STATE;
        }
        fails++;
        for (int arrows = 0; arrows < 1 << (worlds * worlds); arrows++) {
            if (numbered(frame.kind, worlds, arrows, 0).fits(frame.kind)) {
                for (int valuation = 0; valuation < 1 << (2 * worlds); valuation++) {
                    int world = failure(numbered(frame.kind, worlds, arrows, valuation), formula);
                    if (world != NONE) {
                        return new int[] {arrows, valuation, world}[what];
                    }
                }
            }
        }
        return NONE;
    }

    int tells(int law) {
        if (law < 0 || law > 4) {
            return OUTSIDE;
        }
        if (formula.isEmpty() || tellings == 12) {
            return STATE;
        }
        tellings++;
        for (int arrows = 0; arrows < 512; arrows++) {
            Shape shape = numbered(0, 3, arrows, 0);
            if (shape.law(law) != isValid(shape, formula)) {
                return 0;
            }
        }
        return 1;
    }

    int keeps(int law) {
        if (law < 0 || law > 4) {
            return OUTSIDE;
        }
        return frame == null ? STATE : frame.law(law) ? 1 : 0;
    }

    int see(int what, boolean can) {
        if (what < 0 || what > 3) {
            return OUTSIDE;
        }
        if (frame == null) {
            return STATE;
        }
        if (seen.size() == 6) {
            return FULL;
        }
        seen.add(new int[] {what, can ? 1 : 0});
        return seen.size();
    }

    int forget() {
        int had = seen.size();
        seen.clear();
        return had;
    }

    private List<Integer> possible(List<int[]> observations) {
        List<Integer> kinds = new ArrayList<>();
        for (int kind = 0; kind < 5; kind++) {
            boolean fits = true;
            for (int[] one : observations) {
                fits &= KIND_CAN[one[0]][kind] == (one[1] == 1);
            }
            if (fits) {
                kinds.add(kind);
            }
        }
        return kinds;
    }

    int sorts(int what) {
        if (what != 0 && what != 1) {
            return OUTSIDE;
        }
        int set = 0;
        for (int kind : possible(seen)) {
            set += 1 << kind;
        }
        if (what == 0) {
            return set;
        }
        int best = NONE;
        int least = Integer.MAX_VALUE;
        for (int thing = 3; thing >= 0 && set != 0; thing--) {
            int worst = 0;
            for (int answer = 0; answer < 2; answer++) {
                List<int[]> more = new ArrayList<>(seen);
                more.add(new int[] {thing, answer});
                worst = Math.max(worst, possible(more).size());
            }
            if (worst <= least) {
                least = worst;
                best = thing;
            }
        }
        return best;
    }

    int drawn(int times, int seed, int what) {
        if (times < 1 || times > 60 || seed < 0 || what < 0 || what > 2) {
            return OUTSIDE;
        }
        if (frame == null || formula.isEmpty()) {
            return STATE;
        }
        long x = seed;
        int worlds = 0;
        int whole = 0;
        for (int time = 0; time < times; time++) {
            boolean[] p = new boolean[frame.size()];
            boolean[] q = new boolean[frame.size()];
            for (int a = 0; a < frame.size(); a++) {
                x = (1103515245L * x + 12345L) % 2147483648L;
                p[a] = x / 65536 % 4 % 2 == 1;
                q[a] = x / 65536 % 4 / 2 == 1;
            }
            Shape shape = new Shape(frame.kind, frame.to, p, q);
            for (int a = 0; a < frame.size(); a++) {
                worlds += holds(shape, formula, 0, a) ? 1 : 0;
            }
            whole += failure(shape, formula) == NONE ? 1 : 0;
        }
        return what == 0 ? worlds : what == 1 ? whole : (int) x;
    }

    int image() {
        if (frame == null) {
            return STATE;
        }
        savedFrame = frame;
        savedSeen = new ArrayList<>(seen);
        return frame.size();
    }

    int restore() {
        if (savedFrame == null) {
            return STATE;
        }
        frame = savedFrame;
        seen = new ArrayList<>(savedSeen);
        return frame.size();
    }

    int count(int what) {
        if (what < 0 || what > 10) {
            return OUTSIDE;
        }
        int holding = 0;
        int laws = 0;
        for (int a = 0; frame != null && !formula.isEmpty() && a < frame.size(); a++) {
            holding += holds(frame, formula, 0, a) ? 1 : 0;
        }
        for (int law = 0; frame != null && law < 5; law++) {
            laws += frame.law(law) ? 1 : 0;
        }
        return new int[] {
            frame == null ? 0 : frame.size(), frame == null ? 0 : frame.arrowCount(), formula.length(), holding, laws,
            seen.size(), page.length(), frames, formulas, fails, tellings}[what];
    }

    long digest() {
        List<Long> numbers = new ArrayList<>();
        if (frame != null) {
            for (int what = 0; what < 5; what++) {
                numbers.add((long) about(what));
            }
            for (int a = 0; a < frame.size(); a++) {
                for (int what = 0; what < 6; what++) {
                    numbers.add((long) world(a, what));
                }
                for (int b = 0; b < frame.size(); b++) {
                    numbers.add((long) arrow(a, b));
                }
            }
            for (int law = 0; law < 5; law++) {
                numbers.add((long) keeps(law));
            }
            if (!formula.isEmpty()) {
                numbers.add((long) valid());
                for (int k = 0; k < formula.length(); k++) {
                    numbers.add((long) part(k));
                }
            }
        }
        for (char sign : formula.toCharArray()) {
            numbers.add((long) sign);
        }
        numbers.add((long) sorts(0));
        numbers.add((long) sorts(1));
        for (char code : page.toCharArray()) {
            numbers.add((long) code);
        }
        for (int what = 0; what < 11; what++) {
            numbers.add((long) count(what));
        }
        long h = 1481;
        for (long number : numbers) {
            h = 31 * h + number;
        }
        return h;
    }
}
