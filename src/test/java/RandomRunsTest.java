import java.util.ArrayList;
import java.util.List;
import java.util.Random;

/** Long runs of drawn calls, each asked of FrameBoard and of Model; the same runs every time. */
public final class RandomRunsTest {
    static final int RUNS = 400;
    static final int CALLS = 512;
    private static final int[] EDGES = {Integer.MIN_VALUE, -1, 5, 6, 7, 31, 32, 33, 64, 1 << 16, Integer.MAX_VALUE};

    private final Random random;
    private final FrameBoard board = new FrameBoard();
    private final Model model = new Model();
    private final List<String> done = new ArrayList<>();
    private final List<String> next = new ArrayList<>();
    private boolean gone = false;

    private RandomRunsTest(int seed) {
        random = new Random(seed);
    }

    /** Two objects are asked by turns, so that neither can take what the other one holds for its own. */
    public static void main(String[] args) {
        Checks checks = new Checks();
        for (int seed = 0; seed < RUNS; seed += 2) {
            RandomRunsTest one = new RandomRunsTest(seed);
            RandomRunsTest other = new RandomRunsTest(seed + 1);
            for (int call = 0; call < CALLS; call++) {
                one.step(checks);
                other.step(checks);
            }
        }
        checks.finish("RandomRunsTest");
    }

    /** Asks for one call more; behind a wrong answer the two may differ in anything, so nothing more is asked. */
    private void step(Checks checks) {
        if (gone) {
            return;
        }
        if (next.isEmpty()) {
            next.addAll(someCalls());
        }
        String call = done.size() == CALLS - 1 ? "digest()" : next.remove(0);
        done.add(call);
        long want = Checks.call(model, call);
        long got = Checks.call(board, call);
        gone = got != want;
        checks.due(gone ? String.join("; ", done) : call, got, want);
    }

    private List<String> someCalls() {
        int choice = random.nextInt(40);
        if (choice < 2) {
            return typed(spoiled(frameText()), 0);
        }
        if (choice < 5) {
            return typed(spoiled(formulaText(1 + random.nextInt(16))), 1);
        }
        return List.of(choice < 8 ? "digest()" : oneCall());
    }

    private List<String> typed(String text, int what) {
        List<String> calls = new ArrayList<>();
        if (random.nextInt(4) > 0) {
            calls.add("blank()");
        }
        for (char sign : text.toCharArray()) {
            calls.add("letter(" + (int) sign + ")");
        }
        calls.add("fault(" + what + ")");
        calls.add(what == 0 ? "frame()" : "formula()");
        return calls;
    }

    private String frameText() {
        int n = 1 + random.nextInt(4);
        double density = random.nextDouble() * random.nextDouble();
        List<String> arrows = new ArrayList<>();
        for (int pair = 0; pair < n * n; pair++) {
            if (random.nextDouble() < density) {
                arrows.add(random.nextInt(arrows.size() + 1), "" + pair / n + pair % n);
            }
        }
        StringBuilder text = new StringBuilder();
        text.append("ktsyd".charAt(random.nextInt(5))).append(n).append(':').append(String.join(",", arrows));
        text.append(";p").append(someWorlds(n)).append('q').append(someWorlds(n));
        return text.toString();
    }

    private String someWorlds(int n) {
        StringBuilder worlds = new StringBuilder();
        int share = random.nextInt(4);
        for (int a = 0; a < n; a++) {
            if (random.nextInt(4) < share) {
                worlds.append(a);
            }
        }
        return worlds.toString();
    }

    private String formulaText(int room) {
        int choice = random.nextInt(10);
        if (room == 1 || choice == 0) {
            return random.nextInt(3) > 0 ? "p" : "q";
        }
        if (room == 2 || choice < 5) {
            return "~NM".charAt(random.nextInt(3)) + formulaText(room - 1);
        }
        int first = 1 + random.nextInt(room - 2);
        return "&|>>".charAt(random.nextInt(4)) + formulaText(first) + formulaText(room - 1 - first);
    }

    /** Sometimes a sign is changed, put in, or left out. */
    private String spoiled(String text) {
        if (random.nextInt(4) > 0) {
            return text;
        }
        int at = random.nextInt(text.length());
        char sign = "ktsyd01234:,;pq~NM&|> /?".charAt(random.nextInt(24));
        switch (random.nextInt(3)) {
            case 0:
                return text.substring(0, at) + sign + text.substring(at + 1);
            case 1:
                return text.substring(0, at) + sign + text.substring(at);
            default:
                return text.substring(0, at) + text.substring(at + 1);
        }
    }

    private String oneCall() {
        switch (random.nextInt(32)) {
            case 0: return "blank()";
            case 1: return "fault(" + upTo(1) + ")";
            case 2: return random.nextBoolean() ? "frame()" : "formula()";
            case 3: return "letter(" + (random.nextInt(4) == 0 ? upTo(127) : 32 + random.nextInt(95)) + ")";
            case 4: return "about(" + upTo(4) + ")";
            case 5: return "as(" + upTo(4) + ")";
            case 6: case 7: return "world(" + upTo(3) + ", " + upTo(5) + ")";
            case 8: return "arrow(" + upTo(3) + ", " + upTo(3) + ")";
            case 9: return "part(" + upTo(10) + ")";
            case 10: return "sign(" + upTo(16) + ")";
            case 11: case 12: case 13:
                return "draw(" + upTo(3) + ", " + upTo(3) + ", " + random.nextBoolean() + ")";
            case 14: return "mark(" + upTo(3) + ", " + upTo(3) + ")";
            case 15: return "add()";
            case 16: return "take(" + upTo(3) + ")";
            case 17: case 18: return "be(" + upTo(4) + ")";
            case 19: return random.nextInt(3) == 0 ? "close()" : "valid()";
            case 20: return random.nextInt(3) == 0 ? "shrink()" : "about(4)";
            case 21: return "fail(" + upTo(3) + ", " + upTo(2) + ")";
            case 22: return "tells(" + upTo(4) + ")";
            case 23: return "keeps(" + upTo(4) + ")";
            case 24: return "see(" + upTo(3) + ", " + random.nextBoolean() + ")";
            case 25: return random.nextInt(4) == 0 ? "forget()" : "see(" + upTo(3) + ", true)";
            case 26: return "sorts(" + upTo(1) + ")";
            case 27: return "drawn(" + upTo(60) + ", " + random.nextInt() + ", " + upTo(2) + ")";
            case 28: return "drawn(" + (1 + random.nextInt(60)) + ", " + random.nextInt(1 << 30) + ", " + upTo(2) + ")";
            case 29: return "image()";
            case 30: return "restore()";
            default: return "count(" + upTo(10) + ")";
        }
    }

    /** Mostly a number from 0 on to the bound, sometimes one outside. */
    private int upTo(int bound) {
        if (random.nextInt(12) == 0) {
            return random.nextBoolean() ? bound + 1 : EDGES[random.nextInt(EDGES.length)];
        }
        return random.nextInt(bound + 1);
    }
}
