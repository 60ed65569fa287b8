import com.sun.source.tree.CompilationUnitTree;
import com.sun.source.tree.MethodInvocationTree;
import com.sun.source.tree.MethodTree;
import com.sun.source.tree.NewClassTree;
import com.sun.source.util.JavacTask;
import com.sun.source.util.TreePath;
import com.sun.source.util.TreePathScanner;
import com.sun.source.util.Trees;
import java.io.IOException;
import java.nio.file.Path;
import java.util.ArrayList;
import java.util.HashMap;
import java.util.LinkedHashMap;
import java.util.LinkedHashSet;
import java.util.List;
import java.util.Map;
import java.util.Set;
import javax.lang.model.element.Element;
import javax.lang.model.element.ElementKind;
import javax.lang.model.element.ExecutableElement;
import javax.tools.JavaCompiler;
import javax.tools.StandardJavaFileManager;
import javax.tools.ToolProvider;

/**
 * What the program calls, as the compiler sees it: that calls go no deeper than LANGUAGE.md says (rule 11),
 * that none comes back to its own method (rule 8 would ask for a guard), and that of the library only what
 * rule 4 lists is called, and only the exceptions of rule 6 are made.
 */
public final class CallGraphTest {
    private static final int DEEPEST = 8;
    private static final int MOST_PARAMETERS = 7;
    private static final Set<String> LIBRARY = Set.of("java.lang.System.arraycopy", "java.util.Arrays.fill",
            "java.lang.Math.min", "java.lang.Math.max", "java.lang.Math.abs", "java.lang.Integer.bitCount",
            "java.lang.Object.<init>", "java.lang.IllegalStateException.<init>",
            "java.lang.IllegalArgumentException.<init>", "java.lang.IndexOutOfBoundsException.<init>");

    private static int passed = 0;
    private static int failed = 0;

    private CallGraphTest() {
    }

    private static void check(String what, boolean well) {
        if (well) {
            passed++;
        } else {
            failed++;
            System.out.println("not as due: " + what);
        }
    }

    public static void main(String[] args) throws IOException {
        JavaCompiler compiler = ToolProvider.getSystemJavaCompiler();
        Scan scan = new Scan();
        try (StandardJavaFileManager files = compiler.getStandardFileManager(null, null, null)) {
            JavacTask task = (JavacTask) compiler.getTask(null, files, null, List.of("-proc:none"), null,
                    files.getJavaFileObjects(Path.of(args[0])));
            Iterable<? extends CompilationUnitTree> units = task.parse();
            task.analyze();
            scan.trees = Trees.instance(task);
            units.forEach(unit -> scan.scan(unit, null));
        }
        check("methods are found", scan.calls.size() > 80);
        for (String method : scan.calls.keySet()) {
            List<String> chain = scan.deepest(method, new ArrayList<>());
            check("rule 8 and 11: " + chain, chain.size() <= DEEPEST);
        }
        for (String foreign : scan.foreign) {
            check("rule 4 or 6: " + foreign, LIBRARY.contains(foreign));
        }
        System.out.println(passed + " passed, " + failed + " failed");
        if (failed != 0) {
            System.exit(1);
        }
    }

    private static final class Scan extends TreePathScanner<Void, Void> {
        private Trees trees;
        private final Map<String, Set<String>> calls = new LinkedHashMap<>();
        private final Set<String> foreign = new LinkedHashSet<>();
        private final Map<String, List<String>> known = new HashMap<>();
        private String current = "";

        private static String told(Element method) {
            return method.getEnclosingElement() + "." + method.getSimpleName();
        }

        @Override
        public Void visitMethod(MethodTree node, Void nothing) {
            current = told(trees.getElement(getCurrentPath()));
            check("one method of the name " + current, calls.put(current, new LinkedHashSet<>()) == null);
            check("rule 11, parameters of " + current, node.getParameters().size() <= MOST_PARAMETERS);
            return super.visitMethod(node, nothing);
        }

        @Override
        public Void visitMethodInvocation(MethodInvocationTree node, Void nothing) {
            note(trees.getElement(new TreePath(getCurrentPath(), node.getMethodSelect())));
            return super.visitMethodInvocation(node, nothing);
        }

        @Override
        public Void visitNewClass(NewClassTree node, Void nothing) {
            note(trees.getElement(getCurrentPath()));
            return super.visitNewClass(node, nothing);
        }

        private void note(Element element) {
            if (!(element instanceof ExecutableElement)) {
                check("a call in " + current + " that the compiler does not know", false);
                return;
            }
            Element owner = element.getEnclosingElement();
            while (owner.getEnclosingElement().getKind() != ElementKind.PACKAGE) {
                owner = owner.getEnclosingElement();
            }
            if (owner.getSimpleName().contentEquals("NightDiary")) {
                calls.computeIfAbsent(current, method -> new LinkedHashSet<>()).add(told(element));
            } else {
                foreign.add(told(element));
            }
        }

        /** Returns the longest chain of calls that begins with a method; one that comes back is cut and told. */
        private List<String> deepest(String method, List<String> open) {
            if (open.contains(method)) {
                check("no recursion: " + open + " and " + method, false);
                return List.of();
            }
            List<String> chain = known.get(method);
            if (chain == null) {
                open.add(method);
                List<String> longest = List.of();
                for (String called : calls.getOrDefault(method, Set.of())) {
                    List<String> below = deepest(called, open);
                    longest = below.size() > longest.size() ? below : longest;
                }
                open.remove(method);
                chain = new ArrayList<>(List.of(method));
                chain.addAll(longest);
                known.put(method, chain);
            }
            return chain;
        }
    }
}
