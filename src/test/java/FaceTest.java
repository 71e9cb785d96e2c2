import java.io.IOException;
import java.lang.reflect.Constructor;
import java.lang.reflect.Field;
import java.lang.reflect.Member;
import java.lang.reflect.Method;
import java.lang.reflect.Modifier;
import java.util.ArrayList;
import java.util.List;
import java.util.Set;
import java.util.TreeSet;

/** The public face that the document gives, word for word, and nothing else that is public. */
public final class FaceTest {
    private static final int STATIC_FINAL = Modifier.PUBLIC | Modifier.STATIC | Modifier.FINAL;

    private final Checks checks = new Checks();
    private final Document document;
    /** The lines of the face, without "public". */
    private final List<String> face = new ArrayList<>();

    private FaceTest(Document document) {
        this.document = document;
        for (String line : document.face()) {
            face.add(line.replaceFirst("^public ", ""));
        }
    }

    public static void main(String[] args) throws IOException, ReflectiveOperationException {
        FaceTest test = new FaceTest(Document.ofTheClass());
        test.theClass();
        test.constants();
        test.constructor();
        test.methods();
        test.nothingElse();
        test.promises();
        test.checks.finish("FaceTest");
    }

    private void same(String what, Object found, Object want) {
        checks.due(what + " " + found + " for " + want, found.equals(want) ? 1 : 0, 1);
    }

    private void theClass() {
        checks.of("the class");
        same("first line", document.body("The public face").contains("\npublic final class FrameBoard {\n"), true);
        checks.due("modifiers", FrameBoard.class.getModifiers(), Modifier.PUBLIC | Modifier.FINAL);
        same("name", FrameBoard.class.getName(), "FrameBoard");
        same("class above", FrameBoard.class.getSuperclass(), Object.class);
        checks.due("interfaces", FrameBoard.class.getInterfaces().length, 0);
        checks.due("lines of the face", face.size(), 1 + 1 + 30);
    }

    private void constants() throws ReflectiveOperationException {
        checks.of("the constants");
        Set<String> names = new TreeSet<>();
        for (String constant : face.get(0).replaceFirst("static final int ", "").split(", ")) {
            String[] sides = constant.split(" = ");
            Field field = FrameBoard.class.getField(sides[0]);
            checks.due("modifiers of " + sides[0], field.getModifiers(), STATIC_FINAL);
            same("type of " + sides[0], field.getType(), int.class);
            checks.due(sides[0], field.getInt(null), Long.parseLong(sides[1]));
            names.add(sides[0]);
        }
        same("names", names, Set.of("NONE", "UNKNOWN", "OUTSIDE", "STATE", "FULL"));
        checks.due("NONE", places(-1), 1);
        checks.due("UNKNOWN", places(-101), 2);
        checks.due("OUTSIDE", places(-102), 3);
        checks.due("STATE", places(-103), 4);
        checks.due("FULL", places(-104), 5);
    }

    /** The compiler takes this only if they are constants for it, too. */
    private static int places(int value) {
        switch (value) {
            case FrameBoard.NONE: return 1;
            case FrameBoard.UNKNOWN: return 2;
            case FrameBoard.OUTSIDE: return 3;
            case FrameBoard.STATE: return 4;
            case FrameBoard.FULL: return 5;
            default: return 0;
        }
    }

    private void constructor() {
        checks.of("the constructor");
        same("line", face.get(1), "FrameBoard()");
        Constructor<?>[] constructors = FrameBoard.class.getDeclaredConstructors();
        checks.due("constructors", constructors.length, 1);
        checks.due("modifiers", constructors[0].getModifiers(), Modifier.PUBLIC);
        checks.due("arguments", constructors[0].getParameterCount(), 0);
        checks.due("exceptions", constructors[0].getExceptionTypes().length, 0);
    }

    /** Of two arguments of one type, PromisesTest says which one stands first. */
    private void methods() {
        checks.of("the methods");
        Set<String> found = new TreeSet<>();
        for (Method method : FrameBoard.class.getDeclaredMethods()) {
            if (!Modifier.isPrivate(method.getModifiers())) {
                checks.due("modifiers of " + method.getName(), method.getModifiers(), Modifier.PUBLIC);
                checks.due("exceptions of " + method.getName(), method.getExceptionTypes().length, 0);
                found.add(line(method));
            }
        }
        Set<String> want = new TreeSet<>();
        for (String line : face.subList(2, face.size())) {
            want.add(line.replaceAll("(int|boolean) \\w+(?=[,)])", "$1"));
        }
        same("signatures", found, want);
        checks.due("methods", found.size(), 30);
    }

    private static String line(Method method) {
        List<String> types = new ArrayList<>();
        for (Class<?> type : method.getParameterTypes()) {
            types.add(type.getName());
        }
        return method.getReturnType() + " " + method.getName() + "(" + String.join(", ", types) + ")";
    }

    private void nothingElse() {
        checks.of("nothing else is public");
        checks.due("fields", FrameBoard.class.getFields().length, 5);
        checks.due("classes", FrameBoard.class.getClasses().length, 0);
        List<Member> members = new ArrayList<>(List.of(FrameBoard.class.getMethods()));
        members.removeIf(member -> member.getDeclaringClass() == Object.class);
        checks.due("methods, but for those that each object has", members.size(), 30);
        for (Field field : FrameBoard.class.getDeclaredFields()) {
            same("private or public: " + field.getName(), Modifier.isPrivate(field.getModifiers()),
                !Modifier.isPublic(field.getModifiers()));
        }
    }

    /** The signatures at the head of the promises are those of the face, in its order. */
    private void promises() {
        checks.of("the promises");
        for (int promise = 1; promise <= 31; promise++) {
            same("promise " + promise, document.signature(promise), face.get(promise));
        }
    }
}
