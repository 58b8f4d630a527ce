import com.sun.source.tree.ClassTree;
import com.sun.source.tree.CompilationUnitTree;
import com.sun.source.tree.MethodInvocationTree;
import com.sun.source.tree.MethodTree;
import com.sun.source.tree.NewClassTree;
import com.sun.source.util.JavacTask;
import com.sun.source.util.TreePathScanner;
import com.sun.source.util.Trees;
import java.io.IOException;
import java.util.ArrayList;
import java.util.HashMap;
import java.util.LinkedHashSet;
import java.util.List;
import java.util.Map;
import java.util.Set;
import javax.lang.model.element.Element;
import javax.lang.model.element.ElementKind;
import javax.tools.JavaCompiler;
import javax.tools.StandardJavaFileManager;
import javax.tools.ToolProvider;

/** LANGUAGE.md, rules 8 and 11: no method comes to itself again, and calls go at most eight deep. */
public final class DepthTest {
    private static final int DEEPEST = 8;

    private final Map<String, Set<String>> calls = new HashMap<>();
    private final Map<String, List<String>> deepest = new HashMap<>();
    private final List<String> standing = new ArrayList<>();
    private int wrong = 0;

    public static void main(String[] args) throws IOException {
        DepthTest test = new DepthTest();
        test.readCalls(System.getProperty("source", "src/main/java/BellTongue.java"));
        int most = 0;
        for (String method : test.calls.keySet()) {
            List<String> chain = test.chainFrom(method);
            most = Math.max(most, chain.size());
            if (chain.size() > DEEPEST) {
                test.wrong++;
                System.out.println("rule 11: " + chain.size() + " deep: " + chain);
            }
        }
        System.out.println("DepthTest: calls go " + most + " deep at most, " + test.wrong + " wrong");
        if (test.wrong != 0 || most < 2) {
            System.exit(1);
        }
    }

    private void readCalls(String source) throws IOException {
        JavaCompiler compiler = ToolProvider.getSystemJavaCompiler();
        StandardJavaFileManager files = compiler.getStandardFileManager(null, null, null);
        JavacTask task = (JavacTask) compiler.getTask(null, files, null, List.of("-proc:none"),
                null, files.getJavaFileObjects(source));
        Iterable<? extends CompilationUnitTree> units = task.parse();
        task.analyze();
        Trees trees = Trees.instance(task);
        for (CompilationUnitTree unit : units) {
            new Calls(trees).scan(unit, null);
        }
    }

    /** By method: those that it calls, the library's and constructors among them. */
    private final class Calls extends TreePathScanner<Void, Void> {
        private final Trees trees;
        private String here = "";

        Calls(Trees trees) {
            this.trees = trees;
        }

        private String named(Element e) {
            return e.getEnclosingElement() + "." + e;
        }

        private void add() {
            Element e = trees.getElement(getCurrentPath());
            if (e != null && e.getKind() != ElementKind.CLASS) {
                calls.computeIfAbsent(here, k -> new LinkedHashSet<>()).add(named(e));
            }
        }

        @Override
        public Void visitClass(ClassTree tree, Void none) {
            String outer = here;
            // what stands at fields is done by the constructor
            here = trees.getElement(getCurrentPath()) + " at its fields";
            super.visitClass(tree, none);
            here = outer;
            return null;
        }

        @Override
        public Void visitMethod(MethodTree tree, Void none) {
            String outer = here;
            here = named(trees.getElement(getCurrentPath()));
            calls.computeIfAbsent(here, k -> new LinkedHashSet<>());
            super.visitMethod(tree, none);
            here = outer;
            return null;
        }

        @Override
        public Void visitMethodInvocation(MethodInvocationTree tree, Void none) {
            add();
            return super.visitMethodInvocation(tree, none);
        }

        @Override
        public Void visitNewClass(NewClassTree tree, Void none) {
            add();
            return super.visitNewClass(tree, none);
        }
    }

    private List<String> chainFrom(String method) {
        List<String> known = deepest.get(method);
        if (known != null) {
            return known;
        }
        if (standing.contains(method)) {
            wrong++;
            System.out.println("rule 8: it comes to itself again: " + standing + " " + method);
            return List.of(method);
        }
        standing.add(method);
        List<String> best = List.of();
        for (String next : calls.getOrDefault(method, Set.of())) {
            List<String> chain = chainFrom(next);
            best = chain.size() > best.size() ? chain : best;
        }
        standing.remove(standing.size() - 1);
        List<String> chain = new ArrayList<>(best);
        chain.add(0, method);
        deepest.put(method, chain);
        return chain;
    }
}
