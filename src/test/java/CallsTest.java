import com.sun.source.tree.ClassTree;
import com.sun.source.tree.CompilationUnitTree;
import com.sun.source.tree.MethodInvocationTree;
import com.sun.source.tree.MethodTree;
import com.sun.source.tree.NewArrayTree;
import com.sun.source.tree.NewClassTree;
import com.sun.source.util.JavacTask;
import com.sun.source.util.TreePath;
import com.sun.source.util.TreePathScanner;
import com.sun.source.util.Trees;
import java.io.IOException;
import java.nio.file.Path;
import java.util.HashSet;
import java.util.LinkedHashMap;
import java.util.LinkedHashSet;
import java.util.List;
import java.util.Map;
import java.util.Set;
import javax.lang.model.element.Element;
import javax.lang.model.element.Modifier;
import javax.tools.JavaCompiler;
import javax.tools.StandardJavaFileManager;
import javax.tools.ToolProvider;

/**
 * LANGUAGE.md, rules 8, 11, 12, as javac reads the class: how deep calls go, which ones call
 * themselves, what makes objects.
 */
public final class CallsTest {
    private static final int DEEPEST = 8;
    private static int wrong = 0;

    /** Which methods of the class a method calls, itself not among them unless it does so. */
    private final Map<Element, Set<Element>> called = new LinkedHashMap<>();
    private final Map<Element, Set<Element>> reached = new LinkedHashMap<>();

    public static void main(String[] args) throws IOException {
        new CallsTest().go();
        System.out.println(wrong == 0 ? "calls are as the language asks" : wrong + " faults of calls");
        if (wrong != 0) {
            System.exit(1);
        }
    }

    private static void blame(String what) {
        wrong++;
        System.out.println(what);
    }

    private void go() throws IOException {
        read(Path.of("src/main/java/TurnField.java"));
        if (called.size() < 49) {
            blame("only " + called.size() + " methods were read");
        }
        for (Element method : called.keySet()) {
            Set<Element> all = new LinkedHashSet<>();
            reach(method, all);
            reached.put(method, all);
        }
        for (Element method : called.keySet()) {
            checkCircle(method);
            int depth = depthFrom(method);
            if (method.getModifiers().contains(Modifier.PUBLIC) && depth > DEEPEST) {
                blame("calls go " + depth + " deep from " + method);
            }
        }
    }

    private void read(Path file) throws IOException {
        JavaCompiler compiler = ToolProvider.getSystemJavaCompiler();
        try (StandardJavaFileManager files = compiler.getStandardFileManager(null, null, null)) {
            JavacTask task = (JavacTask) compiler.getTask(null, files, null, List.of("-proc:none"), null,
                files.getJavaFileObjects(file));
            Iterable<? extends CompilationUnitTree> units = task.parse();
            task.analyze();
            for (CompilationUnitTree unit : units) {
                new Reader(Trees.instance(task)).scan(unit, null);
            }
        }
    }

    private void reach(Element from, Set<Element> all) {
        for (Element next : called.getOrDefault(from, Set.of())) {
            if (all.add(next)) {
                reach(next, all);
            }
        }
    }

    /** Methods that come back to themselves: private and static, the depth in an argument. */
    private void checkCircle(Element method) {
        if (!reached.get(method).contains(method)) {
            return;
        }
        Set<Modifier> modifiers = method.getModifiers();
        if (!modifiers.contains(Modifier.PRIVATE) || !modifiers.contains(Modifier.STATIC)) {
            blame("calls itself, and is not private and static: " + method);
        }
        if (!method.toString().endsWith(",int)")) {
            blame("calls itself, and its last argument is no depth: " + method);
        }
    }

    private boolean areInOneCircle(Element a, Element b) {
        return a == b || reached.get(a).contains(b) && reached.get(b).contains(a);
    }

    /** Methods of one circle count as one. */
    private int depthFrom(Element method) {
        int deepest = 0;
        Set<Element> circle = new HashSet<>(reached.get(method));
        circle.add(method);
        circle.removeIf(other -> !areInOneCircle(method, other));
        for (Element member : circle) {
            for (Element next : called.get(member)) {
                if (!circle.contains(next)) {
                    deepest = Math.max(deepest, depthFrom(next));
                }
            }
        }
        return deepest + 1;
    }

    /** Goes through the class, method by method. */
    private final class Reader extends TreePathScanner<Void, Void> {
        private final Trees trees;

        Reader(Trees trees) {
            this.trees = trees;
        }

        private Element around() {
            TreePath path = getCurrentPath();
            while (path != null && !(path.getLeaf() instanceof MethodTree) && !(path.getLeaf() instanceof ClassTree)) {
                path = path.getParentPath();
            }
            return path != null && path.getLeaf() instanceof MethodTree ? trees.getElement(path) : null;
        }

        @Override
        public Void visitMethod(MethodTree method, Void nothing) {
            called.putIfAbsent(trees.getElement(getCurrentPath()), new LinkedHashSet<>());
            return super.visitMethod(method, nothing);
        }

        @Override
        public Void visitMethodInvocation(MethodInvocationTree call, Void nothing) {
            Element to = trees.getElement(getCurrentPath());
            boolean own = to != null && to.getEnclosingElement().toString().startsWith("TurnField");
            if (own && around() != null) {
                called.computeIfAbsent(around(), none -> new LinkedHashSet<>()).add(to);
            }
            return super.visitMethodInvocation(call, nothing);
        }

        private void checkMaking(String what) {
            Element method = around();
            if (method != null && !method.getSimpleName().contentEquals("<init>")) {
                blame("an object is made by a call: " + what + " in " + method);
            }
        }

        @Override
        public Void visitNewClass(NewClassTree made, Void nothing) {
            checkMaking(made.toString());
            return super.visitNewClass(made, nothing);
        }

        @Override
        public Void visitNewArray(NewArrayTree made, Void nothing) {
            checkMaking(made.toString());
            return super.visitNewArray(made, nothing);
        }
    }
}
