import java.io.IOException;
import java.lang.reflect.Constructor;
import java.lang.reflect.Field;
import java.lang.reflect.Method;
import java.lang.reflect.Modifier;
import java.nio.file.Files;
import java.nio.file.Path;
import java.util.HashSet;
import java.util.List;
import java.util.Set;
import java.util.TreeSet;
import java.util.regex.Matcher;
import java.util.regex.Pattern;

/** The public face of the document, and those rules of LANGUAGE.md that can be seen without much reading. */
public final class FaceTest {
    private static final Path SOURCE = Path.of("src/main/java/FrameBoard.java");
    private static final Set<String> FACE = Set.of(
        "int letter(int)", "int blank()", "int fault(int)", "int frame()", "int formula()", "int about(int)",
        "int as(int)", "int world(int, int)", "int arrow(int, int)", "int part(int)", "int sign(int)",
        "int draw(int, int, boolean)", "int mark(int, int)", "int add()", "int take(int)", "int be(int)",
        "int close()", "int shrink()", "int valid()", "int fail(int, int)", "int tells(int)", "int keeps(int)",
        "int see(int, boolean)", "int forget()", "int sorts(int)", "int drawn(int, int, int)", "int image()",
        "int restore()", "int count(int)", "long digest()");
    private static final Set<String> CONSTANTS = Set.of("NONE", "UNKNOWN", "OUTSIDE", "STATE", "FULL");
    private static final List<String> BARRED = List.of("\\bthrow\\b", "\\bthrows\\b", "\\btry\\b", "\\bcatch\\b",
        "\\bsynchronized\\b", "\\bassert\\b", "\\bimport\\b", "\\bpackage\\b", "->", "::", "@", "Exact\\b",
        "\\bSystem\\.(?!arraycopy)", "\\b(Integer|Long)\\.M", "\\bnative\\b", "\\bvolatile\\b");

    private final Checks checks = new Checks();
    private final String source;

    private FaceTest(String source) {
        this.source = source;
    }

    public static void main(String[] args) throws IOException {
        FaceTest test = new FaceTest(Files.readString(SOURCE));
        test.members();
        test.classesInside();
        test.barredWords();
        test.methodLengths();
        test.checks.finish("FaceTest");
    }

    private void members() {
        checks.due("modifiers of the class", FrameBoard.class.getModifiers(), Modifier.PUBLIC | Modifier.FINAL);
        Set<String> found = new TreeSet<>();
        for (Method method : FrameBoard.class.getDeclaredMethods()) {
            if (!Modifier.isPrivate(method.getModifiers())) {
                found.add(method.toString().replaceAll("(public|FrameBoard\\.)", "").replace(",", ", ").trim());
            }
        }
        checks.due("the methods " + found, found.equals(new TreeSet<>(FACE)) ? 1 : 0, 1);
        Set<String> fields = new HashSet<>();
        for (Field field : FrameBoard.class.getDeclaredFields()) {
            if (!Modifier.isPrivate(field.getModifiers())) {
                fields.add(field.getName());
                checks.due("modifiers of " + field.getName(), field.getModifiers(),
                    Modifier.PUBLIC | Modifier.STATIC | Modifier.FINAL);
            }
        }
        checks.due("the constants " + fields, fields.equals(CONSTANTS) ? 1 : 0, 1);
        Constructor<?>[] constructors = FrameBoard.class.getDeclaredConstructors();
        checks.due("constructors", constructors.length, 1);
        checks.due("arguments of the constructor", constructors[0].getParameterCount(), 0);
        checks.due("NONE", FrameBoard.NONE, -1);
        checks.due("UNKNOWN", FrameBoard.UNKNOWN, -101);
        checks.due("OUTSIDE", FrameBoard.OUTSIDE, -102);
        checks.due("STATE", FrameBoard.STATE, -103);
        checks.due("FULL", FrameBoard.FULL, -104);
    }

    private void classesInside() {
        Set<String> names = new HashSet<>();
        for (String signature : FACE) {
            names.add(signature.substring(signature.indexOf(' ') + 1, signature.indexOf('(')));
        }
        checks.due("at most twelve classes", FrameBoard.class.getDeclaredClasses().length < 12 ? 1 : 0, 1);
        privateNames(FrameBoard.class, names);
        for (Class<?> inside : FrameBoard.class.getDeclaredClasses()) {
            checks.due("static: " + inside, Modifier.isStatic(inside.getModifiers()) ? 1 : 0, 1);
            checks.due("not public: " + inside, Modifier.isPublic(inside.getModifiers()) ? 1 : 0, 0);
            privateNames(inside, names);
        }
    }

    private void privateNames(Class<?> type, Set<String> face) {
        for (Method method : type.getDeclaredMethods()) {
            boolean bears = Modifier.isPrivate(method.getModifiers()) && face.contains(method.getName());
            checks.due("a private method of the face's name: " + method, bears ? 1 : 0, 0);
            checks.due("at most seven parameters: " + method, method.getParameterCount() > 7 ? 1 : 0, 0);
        }
        for (Field field : type.getDeclaredFields()) {
            int modifiers = field.getModifiers();
            boolean loose = Modifier.isStatic(modifiers) && !Modifier.isFinal(modifiers);
            checks.due("static and not final: " + field, loose ? 1 : 0, 0);
        }
    }

    private void barredWords() {
        String code = source.replaceAll("(?s)/\\*.*?\\*/|//[^\n]*", "");
        for (String word : BARRED) {
            Matcher matcher = Pattern.compile(word).matcher(code);
            checks.due("in the source: " + word, matcher.find() ? 1 : 0, 0);
        }
        checks.due("signs beyond 127", source.chars().filter(sign -> sign > 127).count(), 0);
    }

    private void methodLengths() {
        int begun = 0;
        String[] lines = source.split("\n");
        for (int i = 0; i < lines.length; i++) {
            if (lines[i].matches(" {4,8}[a-z].*\\(.*\\{")) {
                begun = i;
            } else if (lines[i].matches(" {4,8}}")) {
                checks.due("more than sixty lines from line " + (begun + 1), i - begun > 60 ? 1 : 0, 0);
            }
        }
    }
}
