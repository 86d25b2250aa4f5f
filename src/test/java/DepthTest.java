import com.sun.source.tree.ClassTree;
import com.sun.source.tree.CompilationUnitTree;
import com.sun.source.tree.MethodInvocationTree;
import com.sun.source.tree.MethodTree;
import com.sun.source.tree.NewClassTree;
import com.sun.source.tree.Tree;
import com.sun.source.util.JavacTask;
import com.sun.source.util.TreePathScanner;
import com.sun.source.util.Trees;
import java.io.File;
import java.io.IOException;
import java.util.ArrayList;
import java.util.LinkedHashMap;
import java.util.List;
import java.util.Map;
import javax.lang.model.element.Element;
import javax.tools.JavaCompiler;
import javax.tools.StandardJavaFileManager;
import javax.tools.ToolProvider;

/** Rules 8 and 11 of LANGUAGE.md: no method calls itself, also by others; calls go at most eight deep. */
public final class DepthTest {
    private static final int DEEPEST = 8;

    private final Map<Element, List<Element>> calls = new LinkedHashMap<>();
    private final Map<Element, Integer> depths = new LinkedHashMap<>();
    private final List<Element> open = new ArrayList<>();

    public static void main(String[] args) throws IOException {
        DepthTest test = new DepthTest();
        test.read(new File("src/main/java/LeanLatches.java"));
        Bench.due("methods were found", test.calls.size() > 100 ? 1 : 0, 1);
        for (Element method : List.copyOf(test.calls.keySet())) {
            int depth = test.depthOf(method);
            Bench.due(method + " goes " + depth + " deep", depth <= DEEPEST ? 1 : 0, 1);
        }
        Bench.end("DepthTest");
    }

    private void read(File source) throws IOException {
        JavaCompiler compiler = ToolProvider.getSystemJavaCompiler();
        try (StandardJavaFileManager files = compiler.getStandardFileManager(null, null, null)) {
            JavacTask task = (JavacTask) compiler.getTask(null, files, null, List.of("-proc:none"), null,
                files.getJavaFileObjects(source));
            Trees trees = Trees.instance(task);
            List<CompilationUnitTree> units = new ArrayList<>();
            task.parse().forEach(units::add);
            task.analyze();
            units.forEach(unit -> new Caller(trees).scan(unit, null));
        }
    }

    /** How many calls stand open at once, this one with; what the library does inside itself isn't counted. */
    private int depthOf(Element method) {
        if (open.contains(method)) {
            Bench.due(method + " calls itself: " + open, 1, 0);
            return 0;
        }
        if (!depths.containsKey(method)) {
            open.add(method);
            int deepest = 0;
            for (Element called : calls.getOrDefault(method, List.of())) {
                deepest = Math.max(deepest, depthOf(called));
            }
            open.remove(method);
            depths.put(method, deepest + 1);
        }
        return depths.get(method);
    }

    private final class Caller extends TreePathScanner<Void, Void> {
        private final Trees trees;
        private Element caller;

        Caller(Trees trees) {
            this.trees = trees;
        }

        @Override
        public Void visitClass(ClassTree tree, Void none) {
            Element before = caller;
            caller = null;
            super.visitClass(tree, none);
            caller = before;
            return null;
        }

        @Override
        public Void visitMethod(MethodTree tree, Void none) {
            caller = trees.getElement(getCurrentPath());
            calls.put(caller, new ArrayList<>());
            super.visitMethod(tree, none);
            caller = null;
            return null;
        }

        @Override
        public Void visitMethodInvocation(MethodInvocationTree tree, Void none) {
            called(tree);
            return super.visitMethodInvocation(tree, none);
        }

        @Override
        public Void visitNewClass(NewClassTree tree, Void none) {
            called(tree);
            return super.visitNewClass(tree, none);
        }

        private void called(Tree tree) {
            Element element = trees.getElement(getCurrentPath());
            if (caller != null && element != null) {
                calls.get(caller).add(element);
            }
        }
    }
}
