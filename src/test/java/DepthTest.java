import com.sun.source.tree.CompilationUnitTree;
import com.sun.source.tree.MethodInvocationTree;
import com.sun.source.tree.MethodTree;
import com.sun.source.tree.NewClassTree;
import com.sun.source.util.JavacTask;
import com.sun.source.util.TreePathScanner;
import com.sun.source.util.Trees;
import java.io.IOException;
import java.nio.file.Path;
import java.util.ArrayList;
import java.util.List;
import java.util.Map;
import java.util.Set;
import java.util.TreeMap;
import java.util.TreeSet;
import javax.lang.model.element.Element;
import javax.lang.model.element.Modifier;
import javax.tools.JavaCompiler;
import javax.tools.StandardJavaFileManager;
import javax.tools.ToolProvider;

/** Rules 8 and 11 of LANGUAGE.md: how deep calls go, and which methods call themselves, by the code's calls. */
public final class DepthTest {
    private static final int DEEPEST = 8;

    private static final Map<String, Set<String>> CALLED = new TreeMap<>();
    private static final Set<String> PRIVATE = new TreeSet<>();
    private static final List<String> CHAIN = new ArrayList<>();
    private static List<String> longest = List.of();

    public static void main(String[] args) throws IOException {
        readCalls(Path.of("src/main/java/LoopsBelow.java"));
        Due.is("the face's 37 calls and more are seen", CALLED.size() > 37 ? 1 : 0, 1);
        for (String method : CALLED.keySet()) {
            follow(method);
            if (comesBack(method)) {
                Due.is(method + " calls itself and is private", PRIVATE.contains(method) ? 1 : 0, 1);
            }
        }
        Due.is("calls go deeper than eight: " + longest, longest.size() > DEEPEST ? longest.size() : DEEPEST, DEEPEST);
        Due.end();
    }

    private static void readCalls(Path file) throws IOException {
        JavaCompiler compiler = ToolProvider.getSystemJavaCompiler();
        try (StandardJavaFileManager files = compiler.getStandardFileManager(null, null, null)) {
            JavacTask task = (JavacTask) compiler.getTask(null, files, null, List.of("-proc:none"), null, files.getJavaFileObjects(file));
            Iterable<? extends CompilationUnitTree> units = task.parse();
            task.analyze();
            Calls calls = new Calls(Trees.instance(task));
            for (CompilationUnitTree unit : units) {
                calls.scan(unit, "");
            }
        }
    }

    private static final class Calls extends TreePathScanner<Void, String> {
        private final Trees trees;

        Calls(Trees itsTrees) {
            trees = itsTrees;
        }

        private String here() {
            Element e = trees.getElement(getCurrentPath());
            return e.getEnclosingElement().getSimpleName() + "." + e.getSimpleName();
        }

        private void note(String within) {
            CALLED.computeIfAbsent(within, k -> new TreeSet<>()).add(here());
        }

        @Override
        public Void visitMethod(MethodTree tree, String within) {
            CALLED.computeIfAbsent(here(), k -> new TreeSet<>());
            if (trees.getElement(getCurrentPath()).getModifiers().contains(Modifier.PRIVATE)) {
                PRIVATE.add(here());
            }
            return super.visitMethod(tree, here());
        }

        @Override
        public Void visitMethodInvocation(MethodInvocationTree tree, String within) {
            note(within);
            return super.visitMethodInvocation(tree, within);
        }

        @Override
        public Void visitNewClass(NewClassTree tree, String within) {
            note(within);
            return super.visitNewClass(tree, within);
        }
    }

    /** Every chain of calls from a method on; one that comes back to itself is a recursion and isn't followed. */
    private static void follow(String method) {
        if (CHAIN.contains(method)) {
            return;
        }
        CHAIN.add(method);
        if (CHAIN.size() > longest.size()) {
            longest = List.copyOf(CHAIN);
        }
        for (String next : CALLED.getOrDefault(method, Set.of())) {
            follow(next);
        }
        CHAIN.remove(CHAIN.size() - 1);
    }

    private static boolean comesBack(String method) {
        Set<String> reached = new TreeSet<>();
        List<String> open = new ArrayList<>(CALLED.get(method));
        while (!open.isEmpty()) {
            String next = open.remove(open.size() - 1);
            if (reached.add(next)) {
                open.addAll(CALLED.getOrDefault(next, Set.of()));
            }
        }
        return reached.contains(method);
    }
}
