import com.sun.source.tree.CompilationUnitTree;
import com.sun.source.tree.MethodInvocationTree;
import com.sun.source.tree.MethodTree;
import com.sun.source.tree.NewArrayTree;
import com.sun.source.tree.NewClassTree;
import com.sun.source.tree.ThrowTree;
import com.sun.source.tree.Tree;
import com.sun.source.util.JavacTask;
import com.sun.source.util.TreePath;
import com.sun.source.util.TreePathScanner;
import com.sun.source.util.Trees;
import java.io.IOException;
import java.nio.file.Path;
import java.util.ArrayList;
import java.util.LinkedHashMap;
import java.util.LinkedHashSet;
import java.util.List;
import java.util.Map;
import java.util.Set;
import javax.lang.model.element.Element;
import javax.lang.model.element.Modifier;
import javax.tools.JavaCompiler;
import javax.tools.StandardJavaFileManager;
import javax.tools.ToolProvider;

/** LANGUAGE.md's rules 8, 11 and 12, as far as the source's own tree tells who calls whom and who makes what. */
public final class CallsTest {
    private static final int MOST_DEEP = 8;

    private final Map<Element, Set<Element>> callsOf = new LinkedHashMap<>();
    private final Map<Element, List<Element>> longest = new LinkedHashMap<>();

    /** Notes each call and each new object of a source. */
    private final class Reader extends TreePathScanner<Void, Trees> {
        private Element caller() {
            for (TreePath path = getCurrentPath(); path != null; path = path.getParentPath()) {
                if (path.getLeaf() instanceof MethodTree) {
                    return Trees.instance(task).getElement(path);
                }
            }
            return null;
        }

        private void note(Element called) {
            Element caller = caller();
            if (caller != null) {
                callsOf.computeIfAbsent(caller, c -> new LinkedHashSet<>()).add(called);
            }
        }

        @Override
        public Void visitMethod(MethodTree method, Trees trees) {
            callsOf.computeIfAbsent(trees.getElement(getCurrentPath()), c -> new LinkedHashSet<>());
            return super.visitMethod(method, trees);
        }

        @Override
        public Void visitMethodInvocation(MethodInvocationTree call, Trees trees) {
            note(trees.getElement(getCurrentPath()));
            return super.visitMethodInvocation(call, trees);
        }

        @Override
        public Void visitNewClass(NewClassTree made, Trees trees) {
            note(trees.getElement(getCurrentPath()));
            isMadeOnce(made);
            return super.visitNewClass(made, trees);
        }

        @Override
        public Void visitNewArray(NewArrayTree made, Trees trees) {
            isMadeOnce(made);
            return super.visitNewArray(made, trees);
        }

        /** The room is small: but for what is thrown, all is made with the object, in a constructor or beside a field. */
        private void isMadeOnce(Tree made) {
            boolean isThrown = getCurrentPath().getParentPath().getLeaf() instanceof ThrowTree;
            Element caller = caller();
            boolean isInConstructor = caller == null || caller.getSimpleName().contentEquals("<init>");
            Due.due(made + " is made once", true, isThrown || isInConstructor);
        }
    }

    private JavacTask task;

    private void read(Path source) throws IOException {
        JavaCompiler compiler = ToolProvider.getSystemJavaCompiler();
        try (StandardJavaFileManager files = compiler.getStandardFileManager(null, null, null)) {
            task = (JavacTask) compiler.getTask(null, files, null, List.of("-proc:none"), null, files.getJavaFileObjects(source));
            List<CompilationUnitTree> units = new ArrayList<>();
            task.parse().forEach(units::add);
            task.analyze();
            for (CompilationUnitTree unit : units) {
                new Reader().scan(unit, Trees.instance(task));
            }
        }
    }

    private static String name(Element method) {
        return method.getEnclosingElement().getSimpleName() + "." + method.getSimpleName();
    }

    /** The longest chain of calls that begins with a method; a call of itself is recursion and not counted. */
    private List<Element> longestFrom(Element method, List<Element> open) {
        if (longest.containsKey(method)) {
            return longest.get(method);
        }
        List<Element> best = List.of();
        for (Element called : callsOf.getOrDefault(method, Set.of())) {
            if (called.equals(method)) {
                Due.due(name(method) + " calls itself, so it is private", true, method.getModifiers().contains(Modifier.PRIVATE));
                continue;
            }
            Due.due(name(called) + " is open already, by way of another one", false, open.contains(called));
            if (!open.contains(called)) {
                List<Element> deeper = new ArrayList<>(open);
                deeper.add(called);
                List<Element> chain = longestFrom(called, deeper);
                best = chain.size() > best.size() ? chain : best;
            }
        }
        List<Element> chain = new ArrayList<>();
        chain.add(method);
        chain.addAll(best);
        longest.put(method, chain);
        return chain;
    }

    private void depths() {
        int calls = 0;
        for (Element method : List.copyOf(callsOf.keySet())) {
            if (method.getModifiers().contains(Modifier.PUBLIC)) {
                StringBuilder told = new StringBuilder();
                List<Element> chain = longestFrom(method, List.of(method));
                chain.forEach(one -> told.append(" ").append(name(one)));
                Due.due("at most " + MOST_DEEP + " deep:" + told, true, chain.size() <= MOST_DEEP);
                calls++;
            }
        }
        Due.due("the face with its constructor", 53, calls);
    }

    public static void main(String[] args) throws IOException {
        CallsTest test = new CallsTest();
        test.read(Path.of("src/main/java/BeadRings.java"));
        test.depths();
        Due.end("CallsTest");
    }
}
