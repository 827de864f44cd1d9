import com.sun.source.tree.MethodInvocationTree;
import com.sun.source.tree.MethodTree;
import com.sun.source.tree.NewClassTree;
import com.sun.source.util.JavacTask;
import com.sun.source.util.TreePathScanner;
import com.sun.source.util.Trees;
import java.nio.file.Path;
import java.util.ArrayList;
import java.util.HashSet;
import java.util.LinkedHashMap;
import java.util.LinkedHashSet;
import java.util.List;
import java.util.Map;
import java.util.Set;
import javax.lang.model.element.Element;
import javax.tools.JavaCompiler;
import javax.tools.StandardJavaFileManager;
import javax.tools.ToolProvider;

/** Rule 11 of LANGUAGE.md, as the compiler sees the source: calls that are no recursion go at most eight deep. */
public final class DepthTest {
    private static final int MOST = 8;

    private DepthTest() { }

    /** Which method or constructor of the source calls which. */
    private static final class Calls extends TreePathScanner<Void, Element> {
        private final Trees trees;
        final Map<Element, Set<Element>> made = new LinkedHashMap<>();

        Calls(Trees trees) {
            this.trees = trees;
        }

        @Override
        public Void visitMethod(MethodTree method, Element outer) {
            Element here = trees.getElement(getCurrentPath());
            made.put(here, new LinkedHashSet<>());
            return super.visitMethod(method, here);
        }

        @Override
        public Void visitMethodInvocation(MethodInvocationTree call, Element caller) {
            note(caller);
            return super.visitMethodInvocation(call, caller);
        }

        @Override
        public Void visitNewClass(NewClassTree call, Element caller) {
            note(caller);
            return super.visitNewClass(call, caller);
        }

        private void note(Element caller) {
            if (made.containsKey(caller)) {
                made.get(caller).add(trees.getElement(getCurrentPath()));
            }
        }

        /** The longest row of calls from there on in which none comes twice. */
        List<Element> longest(Element from, Set<Element> open) {
            List<Element> best = new ArrayList<>();
            for (Element to : made.get(from)) {
                if (made.containsKey(to) && open.add(to)) {
                    List<Element> row = longest(to, open);
                    best = row.size() > best.size() ? row : best;
                    open.remove(to);
                }
            }
            best.add(0, from);
            return best;
        }
    }

    public static void main(String[] args) throws Exception {
        JavaCompiler compiler = ToolProvider.getSystemJavaCompiler();
        if (compiler == null) {
            System.out.println("there is no compiler");
            System.exit(1);
            return;
        }
        int deepest = 0;
        try (StandardJavaFileManager files = compiler.getStandardFileManager(null, null, null)) {
            JavacTask task = (JavacTask) compiler.getTask(null, files, null, List.of("-proc:none"), null,
                files.getJavaFileObjects(Path.of("src/main/java/RainLoom.java")));
            Calls calls = new Calls(Trees.instance(task));
            var units = task.parse();
            task.analyze();
            calls.scan(units, null);
            for (Element from : calls.made.keySet()) {
                List<Element> row = calls.longest(from, new HashSet<>(Set.of(from)));
                deepest = Math.max(deepest, row.size());
                if (row.size() > MOST) {
                    System.out.println("rule 11: " + row.size() + " deep: " + row);
                }
            }
        }
        if (deepest > MOST || deepest < 2) {
            System.exit(1);
        }
        System.out.println("calls go at most " + deepest + " deep");
    }
}
