import com.sun.source.tree.ClassTree;
import com.sun.source.tree.CompilationUnitTree;
import com.sun.source.tree.MethodInvocationTree;
import com.sun.source.tree.MethodTree;
import com.sun.source.tree.NewClassTree;
import com.sun.source.tree.Tree;
import com.sun.source.util.JavacTask;
import com.sun.source.util.TreePathScanner;
import com.sun.source.util.Trees;
import java.io.IOException;
import java.nio.file.Path;
import java.util.HashMap;
import java.util.HashSet;
import java.util.List;
import java.util.Map;
import java.util.Set;
import java.util.TreeMap;
import java.util.TreeSet;
import javax.lang.model.element.Element;
import javax.lang.model.element.ElementKind;
import javax.lang.model.element.Modifier;
import javax.tools.JavaCompiler;
import javax.tools.StandardJavaFileManager;
import javax.tools.ToolProvider;

/** What LANGUAGE.md rules about calls and methods, as the compiler reads the file: depth, no recursion, library, length. */
public final class RulesTest {
    private static final int DEEPEST = 8;
    private static final int LONGEST = 60;
    private static final Set<String> LIBRARY = Set.of("String.length", "String.charAt", "System.arraycopy", "Arrays.fill",
        "Integer.compare", "Math.min", "Math.max", "Math.abs", "Math.floorDiv", "Math.floorMod",
        "NoSuchElementException.<init>", "Object.<init>");

    private final Map<String, Set<String>> calls = new TreeMap<>();
    private final Map<String, Integer> depths = new HashMap<>();
    private final Set<String> face = new TreeSet<>();
    private final Set<String> library = new TreeSet<>();
    private int wrong;

    private RulesTest() {
    }

    public static void main(String[] args) throws IOException {
        RulesTest test = new RulesTest();
        test.read(Path.of(args.length > 0 ? args[0] : "src/main/java/OddHay.java"));
        test.judge();
        System.out.println(test.wrong == 0 ? "rules: as due" : "rules: " + test.wrong + " wrong");
        System.exit(test.wrong == 0 ? 0 : 1);
    }

    private void due(String what, boolean holds) {
        if (!holds) {
            wrong++;
            System.out.println("rules: " + what);
        }
    }

    private void read(Path file) throws IOException {
        JavaCompiler compiler = ToolProvider.getSystemJavaCompiler();
        try (StandardJavaFileManager files = compiler.getStandardFileManager(null, null, null)) {
            JavacTask task = (JavacTask) compiler.getTask(null, files, null, List.of("-proc:none"), null,
                files.getJavaFileObjects(file));
            Iterable<? extends CompilationUnitTree> units = task.parse();
            task.analyze();
            for (CompilationUnitTree unit : units) {
                new Reader(Trees.instance(task), unit).scan(unit, null);
            }
        }
    }

    private void judge() {
        due("the file has all 41 methods of the face and its constructor, not " + face.size(), face.size() == 42);
        for (String call : calls.keySet()) {
            int depth = depthOf(call, new HashSet<>());
            due(call + " goes " + depth + " deep", depth <= DEEPEST);
        }
        for (String call : library) {
            due("the library's " + call, LIBRARY.contains(call));
        }
    }

    /** Calls that stand open at once, the one itself and the library's counted. */
    private int depthOf(String call, Set<String> open) {
        Integer known = depths.get(call);
        if (known != null) {
            return known;
        }
        if (!open.add(call)) {
            due(call + " calls itself", false);
            return 0;
        }
        int deepest = 0;
        for (String next : calls.getOrDefault(call, Set.of())) {
            deepest = Math.max(deepest, depthOf(next, open));
        }
        open.remove(call);
        depths.put(call, deepest + 1);
        return deepest + 1;
    }

    /** Fields are set by the constructors, so what they call counts there. */
    private final class Reader extends TreePathScanner<Void, String> {
        private final Trees trees;
        private final CompilationUnitTree unit;

        Reader(Trees trees, CompilationUnitTree unit) {
            this.trees = trees;
            this.unit = unit;
        }

        private String nameOf(Element method) {
            boolean maker = method.getKind() == ElementKind.CONSTRUCTOR;
            return holderOf(method) + "." + (maker ? "<init>" : method.toString());
        }

        private String holderOf(Element method) {
            return method.getEnclosingElement().getSimpleName().toString();
        }

        @Override
        public Void visitClass(ClassTree tree, String in) {
            return super.visitClass(tree, trees.getElement(getCurrentPath()).getSimpleName() + ".<init>");
        }

        @Override
        public Void visitMethod(MethodTree tree, String in) {
            Element method = trees.getElement(getCurrentPath());
            String name = nameOf(method);
            calls.putIfAbsent(name, new TreeSet<>());
            if (method.getModifiers().contains(Modifier.PUBLIC)) {
                face.add(name);
            }
            long lines = lineOf(tree, false) - lineOf(tree, true) + 1;
            due(name + " has " + lines + " lines", lines <= LONGEST);
            return super.visitMethod(tree, name);
        }

        private long lineOf(Tree tree, boolean start) {
            long place = start ? trees.getSourcePositions().getStartPosition(unit, tree)
                : trees.getSourcePositions().getEndPosition(unit, tree);
            return place < 0 ? 0 : unit.getLineMap().getLineNumber(place);
        }

        @Override
        public Void visitMethodInvocation(MethodInvocationTree tree, String in) {
            keep(in);
            return super.visitMethodInvocation(tree, in);
        }

        @Override
        public Void visitNewClass(NewClassTree tree, String in) {
            keep(in);
            return super.visitNewClass(tree, in);
        }

        private void keep(String in) {
            Element called = trees.getElement(getCurrentPath());
            String name = nameOf(called);
            calls.computeIfAbsent(in, k -> new TreeSet<>()).add(name);
            Element holder = called.getEnclosingElement();
            boolean own = holder.getSimpleName().contentEquals("OddHay")
                || holder.getEnclosingElement().getSimpleName().contentEquals("OddHay");
            if (!own) {
                library.add(holderOf(called) + "." + called.getSimpleName());
            }
        }
    }
}
