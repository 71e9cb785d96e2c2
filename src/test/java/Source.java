import com.sun.source.tree.BlockTree;
import com.sun.source.tree.ClassTree;
import com.sun.source.tree.CompilationUnitTree;
import com.sun.source.tree.MethodInvocationTree;
import com.sun.source.tree.MethodTree;
import com.sun.source.tree.Tree;
import com.sun.source.tree.VariableTree;
import com.sun.source.util.JavacTask;
import com.sun.source.util.TreePath;
import com.sun.source.util.TreePathScanner;
import com.sun.source.util.Trees;
import java.io.IOException;
import java.nio.file.Path;
import java.util.ArrayList;
import java.util.HashMap;
import java.util.LinkedHashSet;
import java.util.List;
import java.util.Map;
import java.util.Set;
import javax.lang.model.element.Element;
import javax.lang.model.element.ExecutableElement;
import javax.lang.model.element.Modifier;
import javax.lang.model.type.TypeMirror;
import javax.tools.DiagnosticCollector;
import javax.tools.JavaCompiler;
import javax.tools.JavaFileObject;
import javax.tools.StandardJavaFileManager;
import javax.tools.ToolProvider;

/** The source of the class as the compiler reads it: its trees, and what their names stand for. */
final class Source {
    final CompilationUnitTree unit;
    private final Trees trees;
    private final List<TreePath> paths = new ArrayList<>();

    private Source(CompilationUnitTree unit, Trees trees) {
        this.unit = unit;
        this.trees = trees;
        new TreePathScanner<Void, Void>() {
            @Override
            public Void scan(Tree tree, Void none) {
                if (tree != null) {
                    paths.add(getCurrentPath() == null ? new TreePath(unit) : new TreePath(getCurrentPath(), tree));
                }
                return super.scan(tree, none);
            }
        }.scan(unit, null);
    }

    /** Ends the test if it is no program of Java 17. */
    static Source read(Path place) throws IOException {
        JavaCompiler compiler = ToolProvider.getSystemJavaCompiler();
        DiagnosticCollector<JavaFileObject> found = new DiagnosticCollector<>();
        StandardJavaFileManager files = compiler.getStandardFileManager(null, null, null);
        List<String> options = Runtime.version().feature() == 17 ? List.of() : List.of("--release", "17");
        JavacTask task = (JavacTask) compiler.getTask(null, files, found, options, null, files.getJavaFileObjects(place));
        CompilationUnitTree unit = task.parse().iterator().next();
        task.analyze();
        if (!found.getDiagnostics().isEmpty()) {
            throw new IllegalStateException("the compiler says " + found.getDiagnostics());
        }
        return new Source(unit, Trees.instance(task));
    }

    /** The paths to all trees of these kinds, but for constructors that the compiler adds. */
    List<TreePath> all(Tree.Kind... kinds) {
        List<TreePath> found = new ArrayList<>();
        for (TreePath path : paths) {
            if (List.of(kinds).contains(path.getLeaf().getKind()) && isWritten(path)) {
                found.add(path);
            }
        }
        return found;
    }

    private boolean isWritten(TreePath path) {
        for (TreePath at = path; at != null; at = at.getParentPath()) {
            if (at.getLeaf() instanceof MethodTree && trees.getSourcePositions().getEndPosition(unit, at.getLeaf()) < 0) {
                return false;
            }
        }
        return true;
    }

    /** All classes, the one of the document first. */
    List<ClassTree> classes() {
        List<ClassTree> found = new ArrayList<>();
        for (TreePath path : all(Tree.Kind.CLASS, Tree.Kind.INTERFACE, Tree.Kind.ENUM, Tree.Kind.RECORD,
                Tree.Kind.ANNOTATION_TYPE)) {
            found.add((ClassTree) path.getLeaf());
        }
        return found;
    }

    Set<String> classNames() {
        Set<String> names = new LinkedHashSet<>();
        for (ClassTree one : classes()) {
            names.add(one.getSimpleName().toString());
        }
        return names;
    }

    List<MethodTree> methods() {
        List<MethodTree> found = new ArrayList<>();
        for (TreePath path : all(Tree.Kind.METHOD)) {
            found.add((MethodTree) path.getLeaf());
        }
        return found;
    }

    /** The variables that stand in classes; with the class of each. */
    Map<VariableTree, ClassTree> fields() {
        Map<VariableTree, ClassTree> found = new HashMap<>();
        for (TreePath path : all(Tree.Kind.VARIABLE)) {
            if (path.getParentPath().getLeaf() instanceof ClassTree) {
                found.put((VariableTree) path.getLeaf(), (ClassTree) path.getParentPath().getLeaf());
            }
        }
        return found;
    }

    static boolean is(Modifier modifier, VariableTree variable) {
        return variable.getModifiers().getFlags().contains(modifier);
    }

    Element element(TreePath path) {
        return trees.getElement(path);
    }

    TypeMirror type(TreePath path) {
        return trees.getTypeMirror(path);
    }

    /** The method or constructor around a tree; null in the initialiser of a field. */
    static MethodTree methodAround(TreePath path) {
        for (TreePath at = path; at != null; at = at.getParentPath()) {
            if (at.getLeaf() instanceof MethodTree) {
                return (MethodTree) at.getLeaf();
            }
        }
        return null;
    }

    static boolean isConstructor(MethodTree method) {
        return method.getReturnType() == null;
    }

    /** The lines from the first sign of a method to its closing brace. */
    long lines(MethodTree method) {
        BlockTree body = method.getBody();
        long begin = trees.getSourcePositions().getStartPosition(unit, method);
        long end = trees.getSourcePositions().getEndPosition(unit, body == null ? method : body);
        return unit.getLineMap().getLineNumber(end) - unit.getLineMap().getLineNumber(begin) + 1;
    }

    String at(TreePath path) {
        long begin = trees.getSourcePositions().getStartPosition(unit, path.getLeaf());
        return "line " + unit.getLineMap().getLineNumber(begin) + ": " + path.getLeaf();
    }

    /** For each method or constructor, those of this file that it calls; a method that others fill in calls these. */
    Map<Element, Set<Element>> calls() {
        Map<Element, Set<Element>> calls = new HashMap<>();
        for (TreePath path : all(Tree.Kind.METHOD)) {
            calls.put(element(path), new LinkedHashSet<>());
        }
        for (TreePath path : all(Tree.Kind.METHOD_INVOCATION)) {
            Element called = element(new TreePath(path, ((MethodInvocationTree) path.getLeaf()).getMethodSelect()));
            MethodTree around = methodAround(path);
            if (around != null && calls.containsKey(called)) {
                Element caller = trees.getElement(TreePath.getPath(unit, around));
                calls.get(caller).addAll(filledIn(called, calls.keySet()));
            }
        }
        return calls;
    }

    /** A method itself, or the methods of the same name and place in other classes if it is abstract. */
    private static Set<Element> filledIn(Element called, Set<Element> all) {
        if (!called.getModifiers().contains(Modifier.ABSTRACT)) {
            return Set.of(called);
        }
        Set<Element> found = new LinkedHashSet<>();
        for (Element one : all) {
            boolean same = one.getSimpleName().equals(called.getSimpleName())
                && ((ExecutableElement) one).getParameters().size() == ((ExecutableElement) called).getParameters().size();
            if (same && !one.getModifiers().contains(Modifier.ABSTRACT)) {
                found.add(one);
            }
        }
        return found;
    }
}
