import com.sun.source.tree.CompilationUnitTree;
import com.sun.source.tree.MethodInvocationTree;
import com.sun.source.tree.MethodTree;
import com.sun.source.tree.NewClassTree;
import com.sun.source.util.JavacTask;
import com.sun.source.util.TreePathScanner;
import com.sun.source.util.Trees;
import java.io.IOException;
import java.nio.file.Path;
import java.util.HashMap;
import java.util.LinkedHashSet;
import java.util.List;
import java.util.Map;
import java.util.Set;
import java.util.TreeMap;
import java.util.TreeSet;
import javax.lang.model.element.Element;
import javax.tools.JavaCompiler;
import javax.tools.StandardJavaFileManager;
import javax.tools.ToolProvider;

/** Rules 8 and 11: no method of the class calls itself, by way of others either, and calls go at most eight deep. */
public final class CallDepthTest {
    private static final int DEEPEST = 8;
    private static final Checks CHECKS = new Checks();

    /** By each method of the class: those that it calls, the library's too. */
    private final Map<String, Set<String>> calls = new TreeMap<>();
    private final Map<String, Integer> depths = new HashMap<>();

    public static void main(String[] args) throws IOException {
        CHECKS.about("rules 8, 11");
        CallDepthTest test = new CallDepthTest();
        test.read(Path.of("src/main/java/CutBureau.java"));
        CHECKS.dueTrue("only " + test.calls.size() + " methods were read", test.calls.size() > 32);
        for (String method : test.calls.keySet()) {
            int depth = test.depthOf(method, new LinkedHashSet<>());
            CHECKS.dueTrue(method + " goes " + depth + " deep", depth <= DEEPEST);
        }
        CHECKS.end();
    }

    private void read(Path source) throws IOException {
        JavaCompiler compiler = ToolProvider.getSystemJavaCompiler();
        try (StandardJavaFileManager files = compiler.getStandardFileManager(null, null, null)) {
            JavacTask task = (JavacTask) compiler.getTask(null, files, null, List.of(), null, files.getJavaFileObjects(source));
            Iterable<? extends CompilationUnitTree> units = task.parse();
            task.analyze();
            for (CompilationUnitTree unit : units) {
                new Reading(Trees.instance(task), calls).scan(unit, null);
            }
        }
    }

    private int depthOf(String method, Set<String> open) {
        if (!open.add(method)) {
            CHECKS.dueTrue(method + " calls itself: " + open, false);
            return 0;
        }
        Integer known = depths.get(method);
        int deepest = 0;
        if (known == null) {
            for (String called : calls.getOrDefault(method, Set.of())) {
                deepest = Math.max(deepest, depthOf(called, open));
            }
        }
        open.remove(method);
        depths.put(method, known == null ? deepest + 1 : known);
        return depths.get(method);
    }

    /** Goes through the text with the name of the method that it is in. */
    private static final class Reading extends TreePathScanner<Void, String> {
        private final Trees trees;
        private final Map<String, Set<String>> calls;

        Reading(Trees trees, Map<String, Set<String>> calls) {
            this.trees = trees;
            this.calls = calls;
        }

        private String nameHere() {
            Element here = trees.getElement(getCurrentPath());
            return here.getEnclosingElement() + "." + here;
        }

        private void note(String method) {
            if (method != null) {
                calls.get(method).add(nameHere());
            }
        }

        @Override
        public Void visitMethod(MethodTree node, String outer) {
            calls.put(nameHere(), new TreeSet<>());
            return super.visitMethod(node, nameHere());
        }

        @Override
        public Void visitMethodInvocation(MethodInvocationTree node, String method) {
            note(method);
            return super.visitMethodInvocation(node, method);
        }

        @Override
        public Void visitNewClass(NewClassTree node, String method) {
            note(method);
            return super.visitNewClass(node, method);
        }
    }
}
