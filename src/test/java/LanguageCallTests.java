import com.sun.source.tree.AssignmentTree;
import com.sun.source.tree.ClassTree;
import com.sun.source.tree.CompilationUnitTree;
import com.sun.source.tree.MethodInvocationTree;
import com.sun.source.tree.MethodTree;
import com.sun.source.tree.NewArrayTree;
import com.sun.source.tree.NewClassTree;
import com.sun.source.tree.Tree;
import com.sun.source.tree.TypeCastTree;
import com.sun.source.util.JavacTask;
import com.sun.source.util.TreePathScanner;
import com.sun.source.util.Trees;
import java.io.IOException;
import java.nio.file.Path;
import java.util.ArrayList;
import java.util.HashMap;
import java.util.HashSet;
import java.util.List;
import java.util.Map;
import java.util.Set;
import java.util.TreeSet;
import javax.lang.model.element.Element;
import javax.lang.model.element.ExecutableElement;
import javax.tools.JavaCompiler;
import javax.tools.StandardJavaFileManager;
import javax.tools.ToolProvider;

/**
 * Rules of LANGUAGE.md for which the compiler must say what calls what: the library (4), recursion
 * and depth (8, 11), what is made and where (12), casts and kinds of statements (2, 6, 9).
 * The first argument is the path of FenceWays.java.
 */
public final class LanguageCallTests {
    private static final int MOST_DEEP = 8;
    private static final Set<String> LIBRARY = Set.of(
        "java.lang.Object.<init>", "java.util.Arrays.fill", "java.util.Arrays.copyOf", "java.util.Arrays.copyOfRange",
        "java.lang.System.arraycopy", "java.lang.Integer.bitCount", "java.lang.Math.floorMod", "java.lang.Math.floorDiv",
        "java.lang.Math.min", "java.lang.Math.max", "java.lang.Math.abs");
    private static final Set<Tree.Kind> RULED_OUT = Set.of(
        Tree.Kind.THROW, Tree.Kind.TRY, Tree.Kind.CATCH, Tree.Kind.SYNCHRONIZED, Tree.Kind.ASSERT,
        Tree.Kind.LAMBDA_EXPRESSION, Tree.Kind.MEMBER_REFERENCE, Tree.Kind.ANNOTATION,
        // These two may be used by the rules; the class needs neither, and a for shows its end best.
        Tree.Kind.WHILE_LOOP, Tree.Kind.DO_WHILE_LOOP);

    private static int passed = 0;
    private static int failed = 0;

    /** Own methods that each own method calls, by name with the class. */
    private final Map<String, Set<String>> calls = new HashMap<>();
    private final Set<String> library = new TreeSet<>();
    private final Set<String> makers = new TreeSet<>();
    private final Set<String> casts = new TreeSet<>();
    private final Set<Tree.Kind> kinds = new HashSet<>();
    private final List<String> staticsChanged = new ArrayList<>();

    public static void main(String[] args) throws IOException {
        LanguageCallTests found = new LanguageCallTests();
        found.look(Path.of(args[0]));
        due("methods were found", found.calls.size() > 50);
        for (String call : found.library) {
            due("the library has " + call, LIBRARY.contains(call));
        }
        for (String maker : found.makers) {
            due("objects and arrays are made in constructors alone: " + maker, maker.endsWith("<init>"));
        }
        for (String cast : found.casts) {
            due("a cast among numbers: " + cast, cast.equals("int") || cast.equals("long"));
        }
        for (Tree.Kind kind : RULED_OUT) {
            due("no " + kind, !found.kinds.contains(kind));
        }
        due("no static field changes: " + found.staticsChanged, found.staticsChanged.isEmpty());
        for (String method : found.calls.keySet()) {
            int depth = found.depthOf(method, new ArrayList<>());
            due(method + " goes " + depth + " deep", depth <= MOST_DEEP);
        }
        System.out.println(passed + " passed, " + failed + " failed");
        if (failed != 0) {
            System.exit(1);
        }
    }

    private static void due(String what, boolean is) {
        if (is) {
            passed++;
        } else {
            failed++;
            System.out.println("LanguageCallTests: not so: " + what);
        }
    }

    private void look(Path source) throws IOException {
        JavaCompiler compiler = ToolProvider.getSystemJavaCompiler();
        try (StandardJavaFileManager files = compiler.getStandardFileManager(null, null, null)) {
            JavacTask task = (JavacTask) compiler.getTask(null, files, null, List.of("-proc:none"), null, files.getJavaFileObjects(source));
            Iterable<? extends CompilationUnitTree> units = task.parse();
            task.analyze();
            for (CompilationUnitTree unit : units) {
                new Scanner(Trees.instance(task)).scan(unit, null);
            }
        }
    }

    /** How many calls stand open at most, this one among them; one that comes back to itself is too deep. */
    private int depthOf(String method, List<String> open) {
        if (open.contains(method)) {
            return MOST_DEEP + 1;
        }
        open.add(method);
        int deepest = 0;
        for (String called : calls.getOrDefault(method, Set.of())) {
            deepest = Math.max(deepest, depthOf(called, open));
        }
        open.remove(method);
        return deepest + 1;
    }

    private final class Scanner extends TreePathScanner<Void, Void> {
        private final Trees trees;
        private String inside = "";

        Scanner(Trees trees) {
            this.trees = trees;
        }

        @Override
        public Void scan(Tree tree, Void nothing) {
            if (tree != null) {
                kinds.add(tree.getKind());
            }
            return super.scan(tree, nothing);
        }

        @Override
        public Void visitClass(ClassTree tree, Void nothing) {
            String outer = inside;
            // What a field is first given is given by the constructor.
            inside = trees.getElement(getCurrentPath()) + ".<init>";
            super.visitClass(tree, nothing);
            inside = outer;
            return null;
        }

        @Override
        public Void visitMethod(MethodTree tree, Void nothing) {
            String outer = inside;
            inside = nameOf(trees.getElement(getCurrentPath()));
            calls.computeIfAbsent(inside, name -> new TreeSet<>());
            super.visitMethod(tree, nothing);
            inside = outer;
            return null;
        }

        @Override
        public Void visitMethodInvocation(MethodInvocationTree tree, Void nothing) {
            note(trees.getElement(getCurrentPath()));
            return super.visitMethodInvocation(tree, nothing);
        }

        @Override
        public Void visitNewClass(NewClassTree tree, Void nothing) {
            makers.add(inside);
            due("no class without a name in " + inside, tree.getClassBody() == null);
            note(trees.getElement(getCurrentPath()));
            return super.visitNewClass(tree, nothing);
        }

        @Override
        public Void visitNewArray(NewArrayTree tree, Void nothing) {
            makers.add(inside);
            return super.visitNewArray(tree, nothing);
        }

        @Override
        public Void visitTypeCast(TypeCastTree tree, Void nothing) {
            casts.add(tree.getType().toString());
            return super.visitTypeCast(tree, nothing);
        }

        @Override
        public Void visitAssignment(AssignmentTree tree, Void nothing) {
            String variable = tree.getVariable().toString();
            if (variable.matches("[A-Z_]+(\\[.*)?")) {
                staticsChanged.add(variable);
            }
            return super.visitAssignment(tree, nothing);
        }

        private void note(Element called) {
            String name = nameOf(called);
            if (name.startsWith("FenceWays")) {
                calls.computeIfAbsent(inside, method -> new TreeSet<>()).add(name);
            } else {
                library.add(name);
            }
        }

        private String nameOf(Element of) {
            return of.getEnclosingElement() + "." + ((ExecutableElement) of).getSimpleName();
        }
    }
}
