import com.sun.source.tree.ClassTree;
import com.sun.source.tree.CompilationUnitTree;
import com.sun.source.tree.MethodInvocationTree;
import com.sun.source.tree.MethodTree;
import com.sun.source.tree.NewClassTree;
import com.sun.source.util.JavacTask;
import com.sun.source.util.TreePathScanner;
import com.sun.source.util.Trees;
import java.io.File;
import java.util.Arrays;
import java.util.HashMap;
import java.util.HashSet;
import java.util.Map;
import java.util.Set;
import java.util.TreeMap;
import java.util.TreeSet;
import javax.lang.model.element.Element;
import javax.lang.model.element.ExecutableElement;
import javax.lang.model.element.TypeElement;
import javax.tools.JavaCompiler;
import javax.tools.StandardJavaFileManager;
import javax.tools.ToolProvider;

/** Rules 4, 8 and 11 of LANGUAGE.md: who calls whom, how deep, and what of the library. */
public final class CallsTest {
    private static final int DEEPEST = 8;
    private static final Set<String> LIBRARY = new HashSet<>(Arrays.asList("Math.max", "Math.min", "Math.floorMod",
            "Integer.bitCount", "System.arraycopy", "String.length", "String.charAt", "Object.<init>"));
    private static final Set<String> RECURSIVE = new HashSet<>(Arrays.asList("Formulas.test", "Formulas.both", "Formulas.fact",
            "Formulas.sum", "Formulas.product", "Formulas.part", "Formulas.pair", "Formulas.ofIdea", "Foresight.isReached"));

    private final Map<String, Set<String>> calls = new TreeMap<>();
    private final Set<String> publicOnes = new TreeSet<>();
    private final Set<String> library = new TreeSet<>();
    private final Map<String, Integer> depths = new HashMap<>();
    private int wrong;

    private void ok(boolean so, String what) {
        if (!so) {
            wrong++;
            System.out.println("against the rules: " + what);
        }
    }

    private void read() throws Exception {
        JavaCompiler compiler = ToolProvider.getSystemJavaCompiler();
        StandardJavaFileManager files = compiler.getStandardFileManager(null, null, null);
        JavacTask task = (JavacTask) compiler.getTask(null, files, null, Arrays.asList("-proc:none"), null,
                files.getJavaFileObjects(new File("src/main/java/DeepBathing.java")));
        Iterable<? extends CompilationUnitTree> units = task.parse();
        task.analyze();
        for (CompilationUnitTree unit : units) {
            new Reader(Trees.instance(task)).scan(unit, null);
        }
    }

    private final class Reader extends TreePathScanner<Void, Void> {
        private final Trees trees;
        private String method = "";

        Reader(Trees trees) {
            this.trees = trees;
        }

        @Override
        public Void visitClass(ClassTree tree, Void nothing) {
            String before = method;
            method = tree.getSimpleName() + ".<init>";
            super.visitClass(tree, nothing);
            method = before;
            return null;
        }

        @Override
        public Void visitMethod(MethodTree tree, Void nothing) {
            String before = method;
            Element it = trees.getElement(getCurrentPath());
            method = nameOf(it);
            calls.computeIfAbsent(method, k -> new TreeSet<>());
            if (it.getEnclosingElement().getSimpleName().contentEquals("DeepBathing")
                    && it.getModifiers().contains(javax.lang.model.element.Modifier.PUBLIC)) {
                publicOnes.add(method);
            }
            super.visitMethod(tree, nothing);
            method = before;
            return null;
        }

        @Override
        public Void visitMethodInvocation(MethodInvocationTree tree, Void nothing) {
            note(trees.getElement(new com.sun.source.util.TreePath(getCurrentPath(), tree.getMethodSelect())));
            return super.visitMethodInvocation(tree, nothing);
        }

        @Override
        public Void visitNewClass(NewClassTree tree, Void nothing) {
            note(trees.getElement(getCurrentPath()));
            return super.visitNewClass(tree, nothing);
        }

        private void note(Element called) {
            TypeElement owner = (TypeElement) called.getEnclosingElement();
            if (owner.getQualifiedName().toString().startsWith("DeepBathing")) {
                calls.computeIfAbsent(method, k -> new TreeSet<>()).add(nameOf(called));
            } else {
                library.add(nameOf(called));
            }
        }

        private String nameOf(Element called) {
            return called.getEnclosingElement().getSimpleName() + "." + ((ExecutableElement) called).getSimpleName();
        }
    }

    private Set<String> reached(String from) {
        Set<String> all = new HashSet<>();
        java.util.ArrayDeque<String> open = new java.util.ArrayDeque<>(calls.getOrDefault(from, new TreeSet<>()));
        while (!open.isEmpty()) {
            String next = open.pop();
            if (all.add(next)) {
                open.addAll(calls.getOrDefault(next, new TreeSet<>()));
            }
        }
        return all;
    }

    /** How many methods stand open at once below and with this one, those of recursions left out. */
    private int depth(String method, Set<String> above) {
        if (depths.containsKey(method)) {
            return depths.get(method);
        }
        int most = 0;
        Set<String> with = new HashSet<>(above);
        with.add(method);
        for (String called : calls.getOrDefault(method, new TreeSet<>())) {
            if (!with.contains(called)) {
                most = Math.max(most, depth(called, with));
            }
        }
        most += RECURSIVE.contains(method) ? 0 : 1;
        if (!RECURSIVE.contains(method)) {
            depths.put(method, most);
        }
        return most;
    }

    public static void main(String[] args) throws Exception {
        CallsTest test = new CallsTest();
        test.read();
        test.ok(test.publicOnes.size() == 36, "1: " + test.publicOnes);
        for (String method : test.calls.keySet()) {
            boolean recursive = test.reached(method).contains(method);
            test.ok(recursive == RECURSIVE.contains(method), "8: recursion of " + method);
        }
        for (String method : test.publicOnes) {
            int depth = test.depth(method, new HashSet<>());
            test.ok(depth <= DEEPEST, "11: " + method + " is " + depth + " deep");
        }
        for (String of : test.library) {
            test.ok(LIBRARY.contains(of), "4: " + of);
        }
        System.out.println(test.wrong == 0 ? "within the rules" : test.wrong + " against the rules");
        if (test.wrong != 0) {
            System.exit(1);
        }
    }
}
