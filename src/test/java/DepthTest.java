import com.sun.source.tree.CompilationUnitTree;
import com.sun.source.tree.MethodInvocationTree;
import com.sun.source.tree.MethodTree;
import com.sun.source.util.JavacTask;
import com.sun.source.util.TreePathScanner;
import com.sun.source.util.Trees;
import java.io.File;
import java.util.List;
import java.util.Map;
import java.util.Set;
import java.util.TreeMap;
import java.util.TreeSet;
import javax.lang.model.element.Element;
import javax.tools.JavaCompiler;
import javax.tools.StandardJavaFileManager;
import javax.tools.ToolProvider;

/** Rules 8 and 11 of the language, as the compiler sees the source: calls go at most eight deep, none comes back to itself. */
public final class DepthTest {
    private static final int DEEPEST = 8;
    private static final Map<String, Set<String>> CALLS = new TreeMap<>();

    /** Finds which method calls which; what is not declared in the file does not count. */
    private static final class Reader extends TreePathScanner<Void, Trees> {
        private String method = "";

        private static String nameOf(Element element) {
            return element.getEnclosingElement() + "." + element;
        }

        @Override public Void visitMethod(MethodTree tree, Trees trees) {
            String outer = method;
            method = nameOf(trees.getElement(getCurrentPath()));
            CALLS.computeIfAbsent(method, key -> new TreeSet<>());
            super.visitMethod(tree, trees);
            method = outer;
            return null;
        }

        @Override public Void visitMethodInvocation(MethodInvocationTree tree, Trees trees) {
            String called = nameOf(trees.getElement(getCurrentPath()));
            CALLS.computeIfAbsent(method, key -> new TreeSet<>()).add(called);
            return super.visitMethodInvocation(tree, trees);
        }
    }

    /** How many calls stand open at once from a method on; a way that comes back to itself is deeper than any bound. */
    private static int depthOf(String method, int open) {
        if (!CALLS.containsKey(method)) return 0;
        if (open > 40) return 1000;
        int most = 0;
        for (String called : CALLS.get(method)) most = Math.max(most, depthOf(called, open + 1));
        return most + 1;
    }

    public static void main(String[] args) throws Exception {
        JavaCompiler compiler = ToolProvider.getSystemJavaCompiler();
        StandardJavaFileManager files = compiler.getStandardFileManager(null, null, null);
        JavacTask task = (JavacTask) compiler.getTask(null, files, null, List.of("-proc:none"), null,
                files.getJavaFileObjects(new File("src/main/java/NeverBelieved.java")));
        Iterable<? extends CompilationUnitTree> units = task.parse();
        task.analyze();
        for (CompilationUnitTree unit : units) new Reader().scan(unit, Trees.instance(task));
        int wrong = 0, deepest = 0;
        for (String method : CALLS.keySet()) {
            int depth = depthOf(method, 0);
            deepest = Math.max(deepest, depth);
            if (depth > DEEPEST) {
                wrong++;
                System.out.println(method + " goes " + depth + " deep");
            }
        }
        System.out.println(CALLS.size() + " methods, calls go " + deepest + " deep at most");
        if (wrong != 0 || CALLS.size() < 27) System.exit(1);
    }
}
