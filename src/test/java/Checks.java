import java.lang.reflect.InvocationTargetException;
import java.lang.reflect.Method;
import java.util.ArrayList;
import java.util.HashMap;
import java.util.IdentityHashMap;
import java.util.LinkedHashMap;
import java.util.List;
import java.util.Map;

/** What the tests share: calls written as text, and a list of the answers that were not due. */
final class Checks {
    /** What an object answers after so many calls is free, so no test may ask it for more. */
    private static final int MOST_CALLS = 512;
    /** Stands for the answer of a call that threw; no call is due to answer this. */
    private static final long THREW = Long.MIN_VALUE;
    /** Far more than any test takes. */
    private static final int MOST_MILLISECONDS = 300_000;
    private static final Map<String, Method> METHODS = new HashMap<>();
    /** The call that is being made, or was made last. */
    private static volatile String calling = "";

    private final List<String> wrong = new ArrayList<>();
    private final Map<FrameBoard, Integer> calls = new IdentityHashMap<>();
    private final Map<String, Integer> askedOf = new LinkedHashMap<>();
    private final Map<String, Integer> wrongOf = new LinkedHashMap<>();
    private String sentence = "";
    private int asked = 0;

    /** A call that does not end would let the test hang: then it is told, and the test fails. */
    Checks() {
        Thread watch = new Thread(() -> {
            try {
                Thread.sleep(MOST_MILLISECONDS);
                System.out.println("no end of " + calling);
            } catch (InterruptedException e) {
                System.out.println("not watched any more");
            }
            Runtime.getRuntime().halt(1);
        });
        watch.setDaemon(true);
        watch.start();
    }

    /** Names the sentence of the document that the answers from now on are due by. */
    void of(String words) {
        sentence = words;
        askedOf.putIfAbsent(words, 0);
    }

    void due(String what, long got, long want) {
        asked++;
        askedOf.merge(sentence, 1, Integer::sum);
        if (got != want) {
            wrongOf.merge(sentence, 1, Integer::sum);
            wrong.add((sentence.isEmpty() ? "" : sentence + ": ") + what + " answered " + got + ", due is " + want);
        }
    }

    /** Prints what was wrong; ends with exit code 1 if anything was, or if nothing was asked. */
    void finish(String name) {
        for (Map.Entry<String, Integer> entry : askedOf.entrySet()) {
            if (entry.getValue() == 0) {
                wrong.add(entry.getKey() + ": nothing was asked");
            }
        }
        for (int i = 0; i < Math.min(wrong.size(), 20); i++) {
            System.out.println(wrong.get(i));
        }
        for (String words : wrongOf.keySet()) {
            System.out.println("does not hold: " + (words.isEmpty() ? name : words));
        }
        System.out.println(name + ": " + asked + " answers, " + wrong.size() + " not as due");
        if (!wrong.isEmpty() || asked == 0) {
            System.exit(1);
        }
    }

    /** Makes the calls of a text such as "frame() = 2; valid() = 0" and asks for the results behind them. */
    void run(FrameBoard board, String steps) {
        String done = "";
        for (String step : steps.split(";")) {
            String[] sides = step.trim().split(" = ");
            done = done.isEmpty() ? sides[0] : done + "; " + sides[0];
            due(done, ask(board, sides[0]), Long.parseLong(sides[1]));
        }
    }

    /** The same, on a new object. */
    FrameBoard fresh(String steps) {
        FrameBoard board = new FrameBoard();
        run(board, steps);
        return board;
    }

    /** A new object that has read a frame and a formula; an empty text is not read. */
    FrameBoard with(String frame, String formula) {
        FrameBoard board = new FrameBoard();
        readFrame(board, frame);
        readFormula(board, formula);
        return board;
    }

    void readFrame(FrameBoard board, String text) {
        if (!text.isEmpty()) {
            write(board, text);
            due("frame() of " + text, ask(board, "frame()"), text.charAt(1) - '0');
        }
    }

    void readFormula(FrameBoard board, String text) {
        if (!text.isEmpty()) {
            write(board, text);
            due("formula() of " + text, ask(board, "formula()"), text.length());
        }
    }

    void write(FrameBoard board, String text) {
        for (int i = 0; i < text.length(); i++) {
            count(board);
            board.letter(text.charAt(i));
        }
    }

    /** The text of a frame with an arrow number, in which neither p nor q holds. */
    static String frameText(int kind, int worlds, int arrowNumber) {
        List<String> arrows = new ArrayList<>();
        for (int pair = 0; pair < worlds * worlds; pair++) {
            if ((arrowNumber >> pair & 1) == 1) {
                arrows.add("" + pair / worlds + pair % worlds);
            }
        }
        return "ktsyd".charAt(kind) + "" + worlds + ":" + String.join(",", arrows) + ";pq";
    }

    /** Makes a call that is written as text. */
    long ask(FrameBoard board, String call) {
        count(board);
        return call(board, call);
    }

    private void count(FrameBoard board) {
        if (calls.merge(board, 1, Integer::sum) == MOST_CALLS + 1) {
            throw new IllegalStateException("a test asks an object for more than " + MOST_CALLS + " calls");
        }
    }

    static boolean threw(long answer) {
        return answer == THREW;
    }

    /** Makes a call that is written as text, on an object of any class. */
    static long call(Object object, String call) {
        calling = call;
        int open = call.indexOf('(');
        String name = call.substring(0, open);
        String inner = call.substring(open + 1, call.length() - 1).trim();
        String[] given = inner.isEmpty() ? new String[0] : inner.split(", ");
        return answer(object, method(object.getClass(), name, given.length), given);
    }

    private static Method method(Class<?> type, String name, int arguments) {
        String key = type.getName() + "." + name + "/" + arguments;
        if (!METHODS.containsKey(key)) {
            METHODS.put(key, foundMethod(type, name, arguments));
        }
        return METHODS.get(key);
    }

    private static Method foundMethod(Class<?> type, String name, int arguments) {
        for (Method method : type.getDeclaredMethods()) {
            if (method.getName().equals(name) && method.getParameterCount() == arguments) {
                return method;
            }
        }
        throw new IllegalArgumentException(name + " with " + arguments + " arguments");
    }

    private static long answer(Object object, Method method, String[] given) {
        Object[] arguments = new Object[given.length];
        for (int i = 0; i < given.length; i++) {
            boolean truth = method.getParameterTypes()[i] == boolean.class;
            arguments[i] = truth ? (Object) Boolean.valueOf(given[i]) : Integer.valueOf(given[i]);
        }
        try {
            return ((Number) method.invoke(object, arguments)).longValue();
        } catch (InvocationTargetException e) {
            System.out.println(method.getName() + " threw " + e.getCause());
            return THREW;
        } catch (IllegalAccessException e) {
            throw new IllegalStateException(method.getName(), e);
        }
    }
}
