import com.sun.source.tree.ArrayAccessTree;
import com.sun.source.tree.AssignmentTree;
import com.sun.source.tree.BinaryTree;
import com.sun.source.tree.ClassTree;
import com.sun.source.tree.CompoundAssignmentTree;
import com.sun.source.tree.ExpressionTree;
import com.sun.source.tree.ForLoopTree;
import com.sun.source.tree.MethodTree;
import com.sun.source.tree.NewArrayTree;
import com.sun.source.tree.NewClassTree;
import com.sun.source.tree.SwitchTree;
import com.sun.source.tree.Tree;
import com.sun.source.tree.UnaryTree;
import com.sun.source.tree.VariableTree;
import com.sun.source.util.TreePath;
import java.io.IOException;
import java.lang.reflect.Array;
import java.lang.reflect.Field;
import java.nio.file.Files;
import java.nio.file.Path;
import java.util.Collections;
import java.util.HashMap;
import java.util.HashSet;
import java.util.IdentityHashMap;
import java.util.List;
import java.util.Map;
import java.util.Random;
import java.util.Set;
import javax.lang.model.element.Element;
import javax.lang.model.element.Modifier;
import javax.lang.model.type.TypeKind;
import javax.lang.model.type.TypeMirror;

/**
 * The rules of LANGUAGE.md, rule by rule, as far as they can be seen in the source or in runs. The class needs less than
 * the rules allow (no texts, no lists, no recursion); where the test asks for that, it says so.
 */
public final class LanguageTest {
    private static final Path PLACE = Path.of("src/main/java/FrameBoard.java");
    /** All of the library that the class calls, of what rule 4 lists. */
    private static final Set<String> LIBRARY = Set.of("java.lang.Integer.bitCount(int)", "java.lang.Long.bitCount(long)",
        "java.lang.Math.max(int,int)", "java.lang.Math.min(int,int)");
    private static final Set<String> NUMBERS = Set.of("int", "long", "short", "byte", "char", "boolean");

    /** What only allows something, or speaks of what the class does not have, as other tests here see. */
    private static final String[][] FREE = {
        {"Head", "and in the part of it that these rules leave:"},
        {"Head", "A landing outside these rules is sent back with the rule's number."},
        {"Rule 3", "Arrays of objects and ArrayLists may stand inside objects too."},
        {"Rule 4", "String: length, charAt, isEmpty, equals, indexOf(char), substring, toCharArray, new String(char[]);"
            + " constants, whose signs are 1 to 127 (another sign is put by its number: (char) 233). StringBuilder: new,"
            + " append(char), append(String), append(int), charAt, setCharAt, setLength, deleteCharAt, reverse, length,"
            + " toString."},
        {"Rule 4", "ArrayList, List: new, add, add(int, x), get, set, remove(int), size, isEmpty, clear, for over it; List.of"
            + " (of enum constants) with up to six."},
        {"Rule 4", "Iterator and Iterable of Integer, Comparable, implemented by classes of your own."},
        {"Rule 4", "System.arraycopy; Arrays.copyOf, Arrays.copyOfRange, Arrays.fill over arrays of numbers; clone of an"
            + " array."},
        {"Rule 6", "; equals of two Strings is fine."},
        {"Rule 12", ": loops over a list by index, values() kept once in a private static final array, one StringBuilder a"
            + " call; what is kept is counted, and refused beyond the document's limit."},
    };

    /** The depth of a method that calls itself. */
    private static final int ENDLESS = 1000;

    private final Checks checks = new Checks();
    private final Document rules;
    private final Source source;
    private String section = "";

    private LanguageTest(Document rules, Source source) {
        this.rules = rules;
        this.source = source;
    }

    public static void main(String[] args) throws IOException, IllegalAccessException {
        LanguageTest test = new LanguageTest(Document.ofTheLanguage(), Source.read(PLACE));
        test.oneFile();
        test.face();
        test.classesInside();
        test.types();
        test.library();
        test.staticFields();
        test.barred();
        test.tests();
        test.neverThrows();
        test.recursion();
        test.loops();
        test.statements();
        test.sizes();
        test.objects();
        test.answers();
        test.everySentence();
        test.checks.finish("LanguageTest");
    }

    private void rule(int number) {
        section = "Rule " + number;
    }

    /** Says of which sentence of the rule, word for word, the answers to come are. */
    private void says(String words) {
        checks.of(section + ", \"" + words + "\"");
        checks.due("stands in the rules", rules.quote(section, words) ? 1 : 0, 1);
    }

    private void holds(String what, boolean holds) {
        checks.due(what, holds ? 1 : 0, 1);
    }

    private void none(Tree.Kind... kinds) {
        for (TreePath path : source.all(kinds)) {
            holds(source.at(path), false);
        }
        holds("none of " + List.of(kinds), source.all(kinds).isEmpty());
    }

    private void oneFile() throws IOException {
        section = "Head";
        says("The program is one file, src/main/java/FrameBoard.java, without a package line, written in Java 17");
        try (var files = Files.walk(Path.of("src/main"))) {
            holds("one file", files.filter(Files::isRegularFile).toList().equals(List.of(PLACE)));
        }
        holds("no package line", source.unit.getPackageName() == null);
        says("one public class with the document's face, and as many classes of your own inside it as you like.");
        checks.due("classes beside one another", source.unit.getTypeDecls().size(), 1);
        holds("its name", source.classes().get(0).getSimpleName().contentEquals("FrameBoard"));
    }

    private void face() {
        rule(1);
        says("The face: the class of the document, public and final, with the public constructor, methods and constants of the document"
            + " and no other public, protected or package-visible member");
        Set<Modifier> own = source.classes().get(0).getModifiers().getFlags();
        holds("public and final", own.equals(Set.of(Modifier.PUBLIC, Modifier.FINAL)));
        Set<String> face = new HashSet<>();
        for (Tree member : source.classes().get(0).getMembers()) {
            if (member instanceof MethodTree method && !method.getModifiers().getFlags().contains(Modifier.PRIVATE)) {
                face.add(method.getName().toString());
                holds("public: " + method.getName(), method.getModifiers().getFlags().equals(Set.of(Modifier.PUBLIC)));
            }
        }
        checks.due("the constructor and the methods", face.size(), 31);
        for (Map.Entry<VariableTree, ClassTree> field : source.fields().entrySet()) {
            boolean isFace = field.getKey().getName().toString().matches("NONE|UNKNOWN|OUTSIDE|STATE|FULL");
            holds("private: " + field.getKey(), field.getValue() != source.classes().get(0)
                || Source.is(isFace ? Modifier.PUBLIC : Modifier.PRIVATE, field.getKey()));
        }
        says("but for the classes inside it, which are private or package-visible and static.");
        for (ClassTree inside : source.classes().subList(1, source.classes().size())) {
            Set<Modifier> flags = inside.getModifiers().getFlags();
            holds("static: " + inside.getSimpleName(), flags.contains(Modifier.STATIC));
            holds("private or package-visible: " + inside.getSimpleName(), !flags.contains(Modifier.PUBLIC)
                && !flags.contains(Modifier.PROTECTED));
        }
        says("No private method bears the name of a public one.");
        for (MethodTree method : source.methods()) {
            boolean isPrivate = method.getModifiers().getFlags().contains(Modifier.PRIVATE);
            holds("private " + method.getName(), !isPrivate || !face.contains(method.getName().toString()));
        }
    }

    private void classesInside() {
        rule(2);
        says("Classes inside: static nested classes, records, enums (with fields and methods; no constant with a body of its own), interfaces"
            + " and abstract classes with all that implements them in the same file.");
        for (ClassTree one : source.classes()) {
            String above = one.getExtendsClause() == null ? "" : one.getExtendsClause().toString();
            holds(one.getSimpleName() + " extends " + above, above.isEmpty() || source.classNames().contains(above));
            holds(one.getSimpleName() + " implements none", one.getImplementsClause().isEmpty());
        }
        says("An enum's fields are int, long, boolean or String.");
        none(Tree.Kind.ENUM);
        says("No inner class that isn't static, no local or anonymous class, no lambda, no method reference.");
        for (TreePath path : source.all(Tree.Kind.CLASS)) {
            Tree around = path.getParentPath().getLeaf();
            ClassTree one = (ClassTree) path.getLeaf();
            holds("where it stands: " + one.getSimpleName(), around == source.unit || around == source.classes().get(0));
            holds("static: " + one.getSimpleName(), around == source.unit
                || one.getModifiers().getFlags().contains(Modifier.STATIC));
        }
        for (TreePath path : source.all(Tree.Kind.NEW_CLASS)) {
            holds(source.at(path), ((NewClassTree) path.getLeaf()).getClassBody() == null);
        }
        none(Tree.Kind.LAMBDA_EXPRESSION, Tree.Kind.MEMBER_REFERENCE, Tree.Kind.ANNOTATION, Tree.Kind.TYPE_PARAMETER);
    }

    private boolean isAllowed(TypeMirror type) {
        String name = type.toString();
        return NUMBERS.contains(name) || name.equals("void") || name.equals("int[]") || name.equals("long[]")
            || source.classNames().contains(name.replaceFirst("^FrameBoard\\.", ""));
    }

    private void types() {
        rule(3);
        says("Types: int, long, short, byte, char, boolean, double, float; arrays of these and of your own classes, of one dimension,"
            + " and arrays of two dimensions of numbers; your own classes; String, StringBuilder; Integer, where a list holds"
            + " it; ArrayList and List of your own classes or of Integer; own generic classes.");
        for (TreePath path : source.all(Tree.Kind.VARIABLE, Tree.Kind.NEW_CLASS, Tree.Kind.NEW_ARRAY, Tree.Kind.TYPE_CAST)) {
            holds(source.at(path) + " of type " + source.type(path), isAllowed(source.type(path)));
        }
        for (MethodTree method : source.methods()) {
            TreePath path = TreePath.getPath(source.unit, method);
            boolean allowed = Source.isConstructor(method) || isAllowed(source.type(new TreePath(path, method.getReturnType())));
            holds("returned by " + method.getName(), allowed);
        }
        says("On doubles and floats only + - * /, comparisons and casts, none of which may answer NaN. Texts hold characters 0"
            + " to 255 alone.");
        none(Tree.Kind.DOUBLE_LITERAL, Tree.Kind.FLOAT_LITERAL, Tree.Kind.STRING_LITERAL);
    }

    private void library() {
        rule(4);
        says("The library: only what stands here.");
        checks.due("imports", source.unit.getImports().size(), 0);
        for (TreePath path : source.all(Tree.Kind.METHOD_INVOCATION)) {
            Element called = source.element(path);
            String owner = called.getEnclosingElement().toString();
            boolean own = owner.equals("FrameBoard") || owner.startsWith("FrameBoard.");
            boolean isSuper = called.getSimpleName().contentEquals("<init>");
            holds(source.at(path), own || isSuper || LIBRARY.contains(owner + "." + called));
        }
        says("Integer where a list or an own generic class holds it; the static functions of Integer, Long and Math over int and"
            + " long (compare, max, min, abs, bitCount, floorDiv, floorMod and their like; none of those whose name ends in"
            + " Exact).");
        for (String name : LIBRARY) {
            holds(name, name.matches("java\\.lang\\.(Integer|Long|Math)\\.(compare|max|min|abs|bitCount|floorDiv|floorMod)\\("
                + "(int|long)(,(int|long))?\\)"));
        }
    }

    private void staticFields() {
        rule(5);
        says("Static fields are final: constants of int, long, boolean, char or String, the constants of an enum, and arrays of"
            + " int, long, char or byte written out in their initialiser and never changed.");
        for (VariableTree field : source.fields().keySet()) {
            if (Source.is(Modifier.STATIC, field)) {
                String type = field.getType().toString();
                ExpressionTree value = field.getInitializer();
                boolean array = type.matches("(int|long|char|byte)\\[\\]") && value instanceof NewArrayTree made
                    && made.getInitializers() != null;
                holds("final: " + field, Source.is(Modifier.FINAL, field));
                holds(field.toString(), array || type.matches("int|long|boolean|char|String"));
            }
        }
        for (TreePath path : source.all(Tree.Kind.ARRAY_ACCESS)) {
            ExpressionTree array = ((ArrayAccessTree) path.getLeaf()).getExpression();
            boolean isStatic = source.element(new TreePath(path, array)).getModifiers().contains(Modifier.STATIC);
            holds(source.at(path) + " is only read", !isStatic || !isChanged(path));
        }
        says("No other static state, no static initialiser block.");
        for (ClassTree one : source.classes()) {
            for (Tree member : one.getMembers()) {
                holds("no block in " + one.getSimpleName(), member.getKind() != Tree.Kind.BLOCK);
            }
        }
    }

    private static boolean isChanged(TreePath path) {
        Tree around = path.getParentPath().getLeaf();
        return around instanceof AssignmentTree set && set.getVariable() == path.getLeaf()
            || around instanceof CompoundAssignmentTree more && more.getVariable() == path.getLeaf()
            || around instanceof UnaryTree one && one.getKind().name().matches("(PREFIX|POSTFIX)_.*");
    }

    private void barred() {
        rule(6);
        says("No throw, try, catch, synchronized, assert, switch with patterns, record patterns.");
        none(Tree.Kind.THROW, Tree.Kind.TRY, Tree.Kind.CATCH, Tree.Kind.SYNCHRONIZED, Tree.Kind.ASSERT,
            Tree.Kind.BINDING_PATTERN, Tree.Kind.SWITCH_EXPRESSION);
        for (MethodTree method : source.methods()) {
            holds("throws of " + method.getName(), method.getThrows().isEmpty());
            holds("modifiers of " + method.getName(), !method.getModifiers().getFlags().contains(Modifier.SYNCHRONIZED)
                && !method.getModifiers().getFlags().contains(Modifier.NATIVE));
        }
        says("instanceof (with a pattern too: if (s instanceof Disc d)) and casts among your own classes are fine, a cast only"
            + " behind the test that makes it safe");
        none(Tree.Kind.INSTANCE_OF);
        for (TreePath path : source.all(Tree.Kind.TYPE_CAST)) {
            holds(source.at(path), NUMBERS.contains(source.type(path).toString()));
        }
        says("== and != between your own objects, enums and null are fine, never between two Strings or two Integers.");
        says("No answer depends on which object it is.");
        for (TreePath path : source.all(Tree.Kind.EQUAL_TO, Tree.Kind.NOT_EQUAL_TO)) {
            BinaryTree both = (BinaryTree) path.getLeaf();
            holds(source.at(path), source.type(new TreePath(path, both.getLeftOperand())).getKind().isPrimitive());
        }
        says("No equals, hashCode or toString of your own objects or records");
        for (MethodTree method : source.methods()) {
            holds("own " + method.getName(), !method.getName().toString().matches("equals|hashCode|toString"));
        }
    }

    /** An index is tested where its array is used: the same method asks for the array's length. */
    private void tests() {
        rule(7);
        says("an index is looked at before it is used");
        for (TreePath path : source.all(Tree.Kind.ARRAY_ACCESS)) {
            ArrayAccessTree access = (ArrayAccessTree) path.getLeaf();
            MethodTree around = Source.methodAround(path);
            String length = access.getExpression() + ".length";
            holds(source.at(path), around != null && isTested(around.toString(), access.getIndex().toString(), length));
        }
        says("a divisor before it divides");
        none(Tree.Kind.DIVIDE, Tree.Kind.REMAINDER, Tree.Kind.DIVIDE_ASSIGNMENT, Tree.Kind.REMAINDER_ASSIGNMENT);
        says("a reference against null before it is used, a list's size before get and remove.");
        none(Tree.Kind.NULL_LITERAL);
        for (Map.Entry<VariableTree, ClassTree> field : source.fields().entrySet()) {
            boolean isNumber = NUMBERS.contains(field.getKey().getType().toString());
            holds("is made by its constructor and stays: " + field.getKey(), isNumber || isMade(field.getKey(), field.getValue()));
        }
    }

    private static boolean isTested(String method, String index, String length) {
        return method.contains("isBelow(" + index + ", " + length + ")")
            || method.contains(index + " >= 0 && " + index + " < " + length)
            || method.contains("(int " + index + " = 0; " + index + " < " + length + "; " + index + "++)")
            || method.contains("(int " + index + " = " + length + " - 1; " + index + " >= 0; " + index + "--)");
    }

    /** A final field without a value is set by the constructor, else the compiler refuses it. */
    private static boolean isMade(VariableTree field, ClassTree around) {
        if (!Source.is(Modifier.FINAL, field)) {
            return false;
        }
        if (field.getInitializer() != null) {
            return field.getInitializer() instanceof NewClassTree || field.getInitializer() instanceof NewArrayTree;
        }
        return around.toString().contains("    " + field.getName() + " = new " + field.getType() + "();");
    }

    /** Far more calls than the document allows, with arguments of all sizes: what they answer then is free, but they do. */
    private void neverThrows() throws IOException {
        rule(7);
        says("No call may ever throw or fail to end, for any arguments in any state");
        Document face = Document.ofTheClass();
        for (int seed = 0; seed < 20; seed++) {
            Random random = new Random(seed);
            FrameBoard board = new FrameBoard();
            for (int times = 0; times < 5000; times++) {
                String call = wildCall(face.signature(2 + random.nextInt(30)), random);
                holds(call, !Checks.threw(Checks.call(board, call)));
                if (random.nextInt(40) == 0) {
                    readTexts(board);
                }
            }
        }
    }

    private static void readTexts(FrameBoard board) {
        board.blank();
        "k4:01,12,23,33;p13q02".chars().forEach(board::letter);
        board.frame();
        "&|pqN>~qMp".chars().forEach(board::letter);
        board.formula();
    }

    /** A call of a method with this signature. */
    private static String wildCall(String signature, Random random) {
        String call = signature.substring(signature.indexOf(' ') + 1).replaceAll("boolean \\w+", "" + random.nextBoolean());
        while (call.contains("int ")) {
            call = call.replaceFirst("int \\w+", "" + wildNumber(random));
        }
        return call;
    }

    private static int wildNumber(Random random) {
        int[] edges = {Integer.MIN_VALUE, Integer.MIN_VALUE + 1, 64, 1 << 16, Integer.MAX_VALUE - 1, Integer.MAX_VALUE};
        int choice = random.nextInt(6);
        return choice == 0 ? edges[random.nextInt(edges.length)] : choice == 1 ? random.nextInt() : random.nextInt(12) - 3;
    }

    /** The class has no recursion, so that no depth has to be guarded. */
    private void recursion() {
        rule(8);
        says("Recursion: a private static method that calls itself, private methods that call one another, a method of an"
            + " interface that calls itself on parts (a tree of kinds), a guard on the depth: the depth is carried as an"
            + " argument, or a limit of the document keeps it low, and the code refuses what would go deeper. Some forty levels"
            + " are plenty; the calls that stand open at once (a level may go through several methods) stay under 300 for every"
            + " run of calls.");
        Map<Element, Set<Element>> calls = source.calls();
        for (Element method : calls.keySet()) {
            holds(method + " does not call itself", depth(method, calls, new HashSet<>()) < ENDLESS);
        }
        rule(11);
        says("calls that are no recursion go at most eight deep");
        for (Element method : calls.keySet()) {
            int depth = depth(method, calls, new HashSet<>());
            holds(method + " goes " + depth + " deep", depth <= 8);
        }
        checks.due("methods with calls", calls.values().stream().anyMatch(called -> called.size() > 1) ? 1 : 0, 1);
    }

    /** How many calls stand open at once, this one among them, while others are open already. */
    private static int depth(Element method, Map<Element, Set<Element>> calls, Set<Element> open) {
        int deepest = 0;
        open.add(method);
        for (Element called : calls.get(method)) {
            deepest = Math.max(deepest, open.contains(called) ? ENDLESS : depth(called, calls, open));
        }
        open.remove(method);
        return deepest + 1;
    }

    /** All loops of the class count a variable of their own up or down, one by one. */
    private void loops() {
        rule(9);
        says("Every loop has an end that can be seen from its own lines (a counter against a bound, or a chain of objects that"
            + " has an end). Where the document tells no bound, the counter's bound stands far above what any run can need (a"
            + " million is fine).");
        none(Tree.Kind.WHILE_LOOP, Tree.Kind.DO_WHILE_LOOP, Tree.Kind.ENHANCED_FOR_LOOP);
        for (TreePath path : source.all(Tree.Kind.FOR_LOOP)) {
            ForLoopTree loop = (ForLoopTree) path.getLeaf();
            holds(source.at(path), loop.getInitializer().size() == 1 && loop.getUpdate().size() == 1
                && loop.getInitializer().get(0) instanceof VariableTree counter
                && ends(loop, counter.getName().toString(), loop.getUpdate().get(0).toString()));
        }
    }

    private static boolean ends(ForLoopTree loop, String counter, String update) {
        String bound = loop.getCondition().toString();
        boolean up = update.equals(counter + "++;") && bound.matches("(.* && )?" + counter + " < [\\w.()]+");
        boolean down = update.equals(counter + "--;") && bound.matches("(.* && )?" + counter + " >= 0");
        return (up || down) && !loop.getStatement().toString().matches("(?s).*\\b" + counter
            + "( [-+*/&|^<>]*= |\\+\\+|--).*");
    }

    private void statements() {
        rule(10);
        says("if, else, for, for over an array, while, do, switch on numbers and on enums, break, continue, labels, ?: , && and"
            + " || are all fine, and so are all int and long arithmetic with Java's wrap-around, shifts and masks, and joining"
            + " texts by StringBuilder (not by +).");
        for (TreePath path : source.all(Tree.Kind.SWITCH)) {
            String on = source.type(new TreePath(path, ((SwitchTree) path.getLeaf()).getExpression())).toString();
            holds(source.at(path), NUMBERS.contains(on));
        }
        for (TreePath path : source.all(Tree.Kind.PLUS, Tree.Kind.PLUS_ASSIGNMENT)) {
            holds(source.at(path), NUMBERS.contains(source.type(path).toString()));
        }
    }

    private void sizes() {
        rule(11);
        says("A method takes at most seven parameters.");
        for (MethodTree method : source.methods()) {
            holds(method.getName() + "", method.getParameters().size() <= 7);
        }
        says("Methods stay short (some sixty lines)");
        for (MethodTree method : source.methods()) {
            holds(method.getName() + " has " + source.lines(method) + " lines", source.lines(method) <= 60);
        }
        says("the file has at most some twelve classes");
        holds(source.classNames() + "", source.classes().size() <= 12);
        says("and a class some twenty fields beside its constants.");
        Map<ClassTree, Integer> fields = new HashMap<>();
        source.fields().forEach((field, around) -> fields.merge(around, Source.is(Modifier.STATIC, field) ? 0 : 1, Integer::sum));
        fields.forEach((around, number) -> holds(around.getSimpleName() + " has " + number + " fields", number <= 20));
    }

    /** All objects and arrays are made where an object of the class is made, and none by a call of a method. */
    private void objects() throws IllegalAccessException {
        rule(12);
        says("An object may be made by any method, and none in a loop without a bound. What a run makes is counted, the library's"
            + " own objects too (a list's iterator, the copy that values() makes, a text and its characters): keep it small");
        for (TreePath path : source.all(Tree.Kind.NEW_CLASS, Tree.Kind.NEW_ARRAY)) {
            MethodTree around = Source.methodAround(path);
            holds(source.at(path), around == null || Source.isConstructor(around));
        }
        for (TreePath path : source.all(Tree.Kind.METHOD_INVOCATION)) {
            holds(source.at(path) + " copies nothing", !source.type(path).getKind().equals(TypeKind.ARRAY));
        }
        Set<Object> made = Collections.newSetFromMap(new IdentityHashMap<>());
        long parts = partsOf(new FrameBoard(), made);
        holds("objects and arrays of one object: " + made.size(), made.size() <= 20);
        holds("fields and elements of one object: " + parts, parts <= 300);
        says("A constructor calls no method that another class could override and hands out nothing of the object that it"
            + " makes.");
        for (TreePath path : source.all(Tree.Kind.METHOD_INVOCATION)) {
            MethodTree around = Source.methodAround(path);
            boolean isSuper = source.element(path).getSimpleName().contentEquals("<init>");
            holds(source.at(path) + " in a constructor", isSuper || around == null || !Source.isConstructor(around));
        }
        for (MethodTree method : source.methods()) {
            boolean hands = method.getBody() != null && method.getBody().toString().matches("(?s).*\\bthis\\b.*");
            holds("hands out itself: " + method.getName(), !Source.isConstructor(method) || !hands);
        }
    }

    /** How many fields and elements there are in an object or array, and in all that it holds. */
    private static long partsOf(Object one, Set<Object> made) throws IllegalAccessException {
        if (!made.add(one)) {
            return 0;
        }
        if (one.getClass().isArray()) {
            return Array.getLength(one);
        }
        long parts = 0;
        for (Class<?> type = one.getClass(); type != Object.class; type = type.getSuperclass()) {
            for (Field field : type.getDeclaredFields()) {
                if (!java.lang.reflect.Modifier.isStatic(field.getModifiers())) {
                    field.setAccessible(true);
                    parts += 1 + (field.getType().isPrimitive() ? 0 : partsOf(field.get(one), made));
                }
            }
        }
        return parts;
    }

    private void answers() throws IOException {
        rule(13);
        says("No clock, no randomness, no file, network, thread or environment");
        for (String call : LIBRARY) {
            holds(call, call.matches("java\\.lang\\.(Integer|Long|Math)\\.(?!random).*"));
        }
        says("the same calls always give the same answers.");
        Document face = Document.ofTheClass();
        for (int seed = 0; seed < 20; seed++) {
            Random random = new Random(seed);
            FrameBoard board = new FrameBoard();
            FrameBoard twin = new FrameBoard();
            readTexts(board);
            readTexts(twin);
            for (int times = 0; times < 400; times++) {
                String call = wildCall(face.signature(2 + random.nextInt(30)), random);
                checks.due(call, Checks.call(board, call), Checks.call(twin, call));
            }
        }
    }

    private void everySentence() {
        checks.of("each rule has a test");
        for (String[] words : FREE) {
            section = words[0];
            checks.due(words[1], rules.quote(section, words[1]) ? 1 : 0, 1);
        }
        for (String name : rules.sections()) {
            for (String words : rules.notQuoted(name)) {
                checks.due(name + ", \"" + words + "\", tests", 0, 1);
            }
        }
    }
}
