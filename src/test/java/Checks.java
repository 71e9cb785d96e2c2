import java.lang.reflect.Method;
import java.util.ArrayList;
import java.util.List;

/** What the tests share: calls written as text, and a list of the answers that were not due. */
final class Checks {
    private final List<String> wrong = new ArrayList<>();
    private int asked = 0;

    void due(String what, long got, long want) {
        asked++;
        if (got != want) {
            wrong.add(what + " answered " + got + ", due is " + want);
        }
    }

    /** Prints what was wrong; ends with exit code 1 if anything was, or if nothing was asked. */
    void finish(String name) {
        for (int i = 0; i < Math.min(wrong.size(), 20); i++) {
            System.out.println(wrong.get(i));
        }
        System.out.println(name + ": " + asked + " answers, " + wrong.size() + " not as due");
        if (!wrong.isEmpty() || asked == 0) {
            System.exit(1);
        }
    }

    /** Makes the calls of a text such as "frame() = 2; valid() = 0" and asks for the results behind them. */
    void run(FrameBoard board, String calls) {
        String done = "";
        for (String step : calls.split(";")) {
            String[] sides = step.trim().split(" = ");
            done = done.isEmpty() ? sides[0] : done + "; " + sides[0];
            due(done, call(board, sides[0]), Long.parseLong(sides[1]));
        }
    }

    /** The same, on a new object. */
    FrameBoard fresh(String calls) {
        FrameBoard board = new FrameBoard();
        run(board, calls);
        return board;
    }

    /** A new object that has read a frame and a formula; an empty text is not read. */
    FrameBoard with(String frame, String formula) {
        FrameBoard board = new FrameBoard();
        readFrame(board, frame);
        readFormula(board, formula);
        return board;
    }

    void readFrame(FrameBoard board, String text) {
        if (!text.isEmpty()) {
            write(board, text);
            due("frame() of " + text, board.frame(), text.charAt(1) - '0');
        }
    }

    void readFormula(FrameBoard board, String text) {
        if (!text.isEmpty()) {
            write(board, text);
            due("formula() of " + text, board.formula(), text.length());
        }
    }

    void write(FrameBoard board, String text) {
        for (int i = 0; i < text.length(); i++) {
            board.letter(text.charAt(i));
        }
    }

    /** Makes a call that is written as text, on an object of any class. */
    static long call(Object object, String call) {
        int open = call.indexOf('(');
        String name = call.substring(0, open);
        String inner = call.substring(open + 1, call.length() - 1).trim();
        String[] given = inner.isEmpty() ? new String[0] : inner.split(", ");
        for (Method method : object.getClass().getDeclaredMethods()) {
            if (method.getName().equals(name) && method.getParameterCount() == given.length) {
                return answer(object, method, given);
            }
        }
        throw new IllegalArgumentException(call);
    }

    private static long answer(Object object, Method method, String[] given) {
        Object[] arguments = new Object[given.length];
        for (int i = 0; i < given.length; i++) {
            boolean truth = method.getParameterTypes()[i] == boolean.class;
            arguments[i] = truth ? (Object) Boolean.valueOf(given[i]) : Integer.valueOf(given[i]);
        }
        try {
            return ((Number) method.invoke(object, arguments)).longValue();
        } catch (ReflectiveOperationException e) {
            throw new IllegalStateException(method.getName(), e);
        }
    }
}
