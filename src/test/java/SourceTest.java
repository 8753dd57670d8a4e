import com.sun.source.tree.ClassTree;
import com.sun.source.tree.CompilationUnitTree;
import com.sun.source.tree.MethodInvocationTree;
import com.sun.source.tree.MethodTree;
import com.sun.source.tree.NewClassTree;
import com.sun.source.tree.Tree;
import com.sun.source.util.JavacTask;
import com.sun.source.util.TreePath;
import com.sun.source.util.TreePathScanner;
import com.sun.source.util.Trees;
import java.io.IOException;
import java.nio.file.Path;
import java.util.ArrayDeque;
import java.util.Deque;
import java.util.LinkedHashMap;
import java.util.LinkedHashSet;
import java.util.List;
import java.util.Map;
import java.util.Set;
import javax.lang.model.element.Element;
import javax.lang.model.element.ElementKind;
import javax.tools.JavaCompiler;
import javax.tools.StandardJavaFileManager;
import javax.tools.ToolProvider;

/** The rules 8 and 11 of LANGUAGE.md: short methods, calls at most eight deep, and no recursion. */
public final class SourceTest {
    private static final Checks CHECKS = new Checks();
    private static final Path SOURCE = Path.of("src/main/java/TermOffice.java");
    private static final int MOST_LINES = 60;
    private static final int MOST_CALLS_DEEP = 8;

    public static void main(String[] args) throws IOException {
        Calls calls = new Calls();
        JavaCompiler compiler = ToolProvider.getSystemJavaCompiler();
        try (StandardJavaFileManager files = compiler.getStandardFileManager(null, null, null)) {
            JavacTask task = (JavacTask) compiler.getTask(null, files, null, List.of("-proc:none"), null,
                files.getJavaFileObjects(SOURCE));
            Iterable<? extends CompilationUnitTree> units = task.parse();
            task.analyze();
            calls.trees = Trees.instance(task);
            calls.scan(units, null);
        }
        CHECKS.holds("methods and classes were found: " + calls.targets.size(), calls.targets.size() > 50);
        for (Element beginning : calls.targets.keySet()) {
            lookAtDepth(calls.targets, beginning, new ArrayDeque<>());
        }
        CHECKS.end();
    }

    private static void lookAtDepth(Map<Element, Set<Element>> targets, Element element, Deque<Element> open) {
        boolean isCircle = open.contains(element);
        open.addLast(element);
        CHECKS.holds("no recursion: " + open, !isCircle);
        CHECKS.holds("at most eight deep: " + open, open.size() <= MOST_CALLS_DEEP);
        if (!isCircle) {
            for (Element target : targets.get(element)) {
                lookAtDepth(targets, target, open);
            }
        }
        open.removeLast();
    }

    /** Which method of the file calls which; a class stands for its constructor and what its fields begin with. */
    private static final class Calls extends TreePathScanner<Void, Element> {
        private final Map<Element, Set<Element>> targets = new LinkedHashMap<>();
        private Trees trees;

        private static Element ownerOf(Element element) {
            return element.getKind() == ElementKind.CONSTRUCTOR ? element.getEnclosingElement() : element;
        }

        private Element here() {
            return ownerOf(trees.getElement(getCurrentPath()));
        }

        @Override
        public Void visitClass(ClassTree tree, Element caller) {
            targets.putIfAbsent(here(), new LinkedHashSet<>());
            return super.visitClass(tree, here());
        }

        @Override
        public Void visitMethod(MethodTree tree, Element caller) {
            targets.putIfAbsent(here(), new LinkedHashSet<>());
            CHECKS.holds("at most " + MOST_LINES + " lines: " + tree.getName(), linesOf(tree) <= MOST_LINES);
            return super.visitMethod(tree, here());
        }

        @Override
        public Void visitMethodInvocation(MethodInvocationTree tree, Element caller) {
            add(caller, trees.getElement(new TreePath(getCurrentPath(), tree.getMethodSelect())));
            return super.visitMethodInvocation(tree, caller);
        }

        @Override
        public Void visitNewClass(NewClassTree tree, Element caller) {
            add(caller, trees.getElement(getCurrentPath()));
            return super.visitNewClass(tree, caller);
        }

        private void add(Element caller, Element target) {
            // The library's methods have no source here.
            if (trees.getTree(ownerOf(target)) != null) {
                targets.get(caller).add(ownerOf(target));
            }
        }

        private long linesOf(Tree tree) {
            CompilationUnitTree unit = getCurrentPath().getCompilationUnit();
            long start = trees.getSourcePositions().getStartPosition(unit, tree);
            long end = trees.getSourcePositions().getEndPosition(unit, tree);
            // A constructor that the compiler adds has no place in the file.
            return end < 0 ? 0 : unit.getLineMap().getLineNumber(end) - unit.getLineMap().getLineNumber(start) + 1;
        }
    }
}
