import com.sun.source.tree.CompilationUnitTree;
import com.sun.source.tree.MethodInvocationTree;
import com.sun.source.tree.MethodTree;
import com.sun.source.tree.NewClassTree;
import com.sun.source.tree.VariableTree;
import com.sun.source.util.JavacTask;
import com.sun.source.util.TreePathScanner;
import com.sun.source.util.Trees;
import java.nio.file.Path;
import java.util.LinkedHashMap;
import java.util.LinkedHashSet;
import java.util.List;
import java.util.Map;
import java.util.Set;
import javax.lang.model.element.Element;
import javax.lang.model.element.ElementKind;
import javax.lang.model.element.Modifier;
import javax.tools.JavaCompiler;
import javax.tools.StandardJavaFileManager;
import javax.tools.ToolProvider;

/**
 * Who calls whom in the class: no method calls itself, by whatever way round, no chain of calls is more
 * than eight deep (LANGUAGE.md, rules 8 and 11), and no method stands there that no call comes to.
 */
public final class DepthTest {
    private static final int DEEPEST = 8;
    private static final Due due = new Due();

    private final Map<Element, Set<Element>> calls = new LinkedHashMap<>();
    /** What the fields of a class are made with, done by its constructor. */
    private final Map<Element, Set<Element>> byFields = new LinkedHashMap<>();
    private final Set<Element> open = new LinkedHashSet<>();

    public static void main(String[] args) throws Exception {
        JavaCompiler compiler = ToolProvider.getSystemJavaCompiler();
        if (compiler == null) {
            System.out.println("DepthTest: this java has no compiler within, nothing was tried");
            return;
        }
        due.part("depth");
        DepthTest test = new DepthTest();
        try (StandardJavaFileManager files = compiler.getStandardFileManager(null, null, null)) {
            test.read((JavacTask) compiler.getTask(null, files, null, List.of("-proc:none"), null,
                    files.getJavaFileObjects(Path.of("src/main/java/TwinOrders.java"))));
        }
        test.look();
        due.end("DepthTest");
    }

    private void read(JavacTask task) throws Exception {
        Iterable<? extends CompilationUnitTree> units = task.parse();
        task.analyze();
        Trees trees = Trees.instance(task);
        for (CompilationUnitTree unit : units) {
            new Reader(trees).scan(unit, null);
        }
        for (Element one : calls.keySet()) {
            if (one.getKind() == ElementKind.CONSTRUCTOR) {
                calls.get(one).addAll(byFields.getOrDefault(one.getEnclosingElement(), Set.of()));
            }
        }
    }

    private void look() {
        due.is("calls of the face, the constructor among them", open.size(), 43);
        Set<Element> reached = new LinkedHashSet<>();
        for (Element from : open) {
            due.isTrue(from + " goes " + DEEPEST + " deep at most", depthOf(from, new LinkedHashSet<>(), reached) <= DEEPEST);
        }
        for (Element one : calls.keySet()) {
            due.isTrue(one + " of " + one.getEnclosingElement() + " is called", reached.contains(one));
        }
    }

    /** The library's own functions count as one level; they have no calls of ours behind them. */
    private int depthOf(Element method, Set<Element> above, Set<Element> reached) {
        reached.add(method);
        if (!above.add(method)) {
            due.isTrue(method + " does not call itself", false);
            return 0;
        }
        int below = 0;
        for (Element called : calls.getOrDefault(method, Set.of())) {
            below = Math.max(below, depthOf(called, above, reached));
        }
        above.remove(method);
        return below + 1;
    }

    private final class Reader extends TreePathScanner<Void, Void> {
        private final Trees trees;
        private Element within;
        private Element field;

        Reader(Trees trees) {
            this.trees = trees;
        }

        @Override
        public Void visitMethod(MethodTree method, Void nothing) {
            within = trees.getElement(getCurrentPath());
            calls.computeIfAbsent(within, m -> new LinkedHashSet<>());
            if (within.getModifiers().contains(Modifier.PUBLIC)) {
                open.add(within);
            }
            super.visitMethod(method, nothing);
            within = null;
            return null;
        }

        @Override
        public Void visitVariable(VariableTree variable, Void nothing) {
            if (within == null) {
                field = trees.getElement(getCurrentPath());
            }
            super.visitVariable(variable, nothing);
            field = null;
            return null;
        }

        @Override
        public Void visitMethodInvocation(MethodInvocationTree call, Void nothing) {
            note(trees.getElement(getCurrentPath()));
            return super.visitMethodInvocation(call, nothing);
        }

        @Override
        public Void visitNewClass(NewClassTree made, Void nothing) {
            note(trees.getElement(getCurrentPath()));
            return super.visitNewClass(made, nothing);
        }

        private void note(Element called) {
            if (within != null) {
                calls.get(within).add(called);
            } else if (field != null) {
                byFields.computeIfAbsent(field.getEnclosingElement(), c -> new LinkedHashSet<>()).add(called);
            }
        }
    }
}
