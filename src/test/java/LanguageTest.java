import com.sun.source.tree.CompilationUnitTree;
import com.sun.source.tree.ImportTree;
import com.sun.source.tree.MethodInvocationTree;
import com.sun.source.tree.MethodTree;
import com.sun.source.tree.NewArrayTree;
import com.sun.source.tree.NewClassTree;
import com.sun.source.tree.Tree;
import com.sun.source.tree.VariableTree;
import com.sun.source.util.JavacTask;
import com.sun.source.util.TreePath;
import com.sun.source.util.TreePathScanner;
import com.sun.source.util.Trees;
import java.io.File;
import java.io.IOException;
import java.util.HashMap;
import java.util.HashSet;
import java.util.List;
import java.util.Map;
import java.util.Set;
import javax.lang.model.element.Element;
import javax.lang.model.element.ElementKind;
import javax.lang.model.element.Modifier;
import javax.tools.JavaCompiler;
import javax.tools.StandardJavaFileManager;
import javax.tools.ToolProvider;

/** Those rules of LANGUAGE.md that the source shows and that FaceTest cannot see; run from the project's folder. */
public final class LanguageTest {
    private static final Checks checks = new Checks();
    private static final String SOURCE = "src/main/java/SingleShares.java";

    /** What rules 2, 3, 6 and 10 forbid; the document asks for no exception, so none is thrown or caught. */
    private static final Set<Tree.Kind> FORBIDDEN = Set.of(Tree.Kind.LAMBDA_EXPRESSION, Tree.Kind.MEMBER_REFERENCE, Tree.Kind.TRY,
        Tree.Kind.CATCH, Tree.Kind.THROW, Tree.Kind.SYNCHRONIZED, Tree.Kind.ASSERT, Tree.Kind.DOUBLE_LITERAL, Tree.Kind.FLOAT_LITERAL);
    private static final Set<String> LIBRARY = Set.of("java.util.Arrays.fill", "java.lang.Math.max", "java.lang.Math.min",
        "java.lang.Math.floorMod", "java.lang.Long.bitCount");

    private static final Map<String, Set<String>> calls = new HashMap<>();
    private static final Set<String> face = new HashSet<>();

    public static void main(String[] args) throws IOException {
        JavaCompiler compiler = ToolProvider.getSystemJavaCompiler();
        try (StandardJavaFileManager files = compiler.getStandardFileManager(null, null, null)) {
            JavacTask task = (JavacTask) compiler.getTask(null, files, null, List.of("-proc:none"), null, files.getJavaFileObjects(new File(SOURCE)));
            Iterable<? extends CompilationUnitTree> units = task.parse();
            task.analyze();
            for (CompilationUnitTree unit : units) {
                checks.holds("no package line", unit.getPackage() == null);
                for (ImportTree line : unit.getImports()) {
                    checks.holds("rule 4: " + line, line.toString().trim().equals("import java.util.Arrays;"));
                }
                new Reader(Trees.instance(task), unit).scan(unit, null);
            }
        }
        checks.due("calls of the face", face.size(), 24);
        for (String name : face) {
            int deep = depth(name, new HashSet<>());
            checks.holds("rule 11: " + name + " goes " + deep + " deep", deep <= 8);
        }
        checks.end();
    }

    /** How many methods stand open at once, the first among them; one that calls itself counts once. */
    private static int depth(String name, Set<String> open) {
        int deepest = 0;
        open.add(name);
        for (String next : calls.getOrDefault(name, Set.of())) {
            if (!open.contains(next)) {
                deepest = Math.max(deepest, depth(next, open));
            }
        }
        open.remove(name);
        return deepest + 1;
    }

    private static final class Reader extends TreePathScanner<Void, Void> {
        private final Trees trees;
        private final CompilationUnitTree unit;
        private String method = "";
        private boolean inMethod;

        Reader(Trees trees, CompilationUnitTree unit) {
            this.trees = trees;
            this.unit = unit;
        }

        @Override
        public Void scan(Tree tree, Void none) {
            if (tree != null && FORBIDDEN.contains(tree.getKind())) {
                checks.holds("rules 2, 3, 6: " + tree.getKind() + " " + tree, false);
            }
            return super.scan(tree, none);
        }

        @Override
        public Void visitMethod(MethodTree tree, Void none) {
            Element element = trees.getElement(getCurrentPath());
            boolean constructor = element.getKind() == ElementKind.CONSTRUCTOR;
            method = name(element);
            inMethod = !constructor;
            if (!constructor && element.getModifiers().contains(Modifier.PUBLIC)) {
                face.add(method);
            }
            long begin = trees.getSourcePositions().getStartPosition(unit, tree);
            long end = trees.getSourcePositions().getEndPosition(unit, tree);
            if (end >= 0) {
                long lines = unit.getLineMap().getLineNumber(end) - unit.getLineMap().getLineNumber(begin) + 1;
                checks.holds("rule 11: " + method + " has " + lines + " lines", lines <= 60);
            }
            checks.holds("rule 11: " + method + " has seven parameters at most", tree.getParameters().size() <= 7);
            super.visitMethod(tree, none);
            inMethod = false;
            return null;
        }

        @Override
        public Void visitMethodInvocation(MethodInvocationTree tree, Void none) {
            Element called = trees.getElement(new TreePath(getCurrentPath(), tree.getMethodSelect()));
            String name = name(called);
            if (name.startsWith("SingleShares")) {
                if (name.equals(method)) {
                    checks.holds("rule 8: " + name + " calls itself", called.getModifiers().containsAll(Set.of(Modifier.PRIVATE, Modifier.STATIC)));
                }
                calls.computeIfAbsent(method, key -> new HashSet<>()).add(name);
            } else if (called.getKind() == ElementKind.METHOD) {
                checks.holds("rule 4: " + name, LIBRARY.contains(name.substring(0, name.indexOf('('))));
            }
            return super.visitMethodInvocation(tree, none);
        }

        /** Room: all rows are made when the object is made. */
        @Override
        public Void visitNewArray(NewArrayTree tree, Void none) {
            checks.holds("rule 12: " + method + " makes no array", !inMethod);
            return super.visitNewArray(tree, none);
        }

        @Override
        public Void visitNewClass(NewClassTree tree, Void none) {
            checks.holds("rule 12: " + method + " makes no object", !inMethod);
            return super.visitNewClass(tree, none);
        }

        @Override
        public Void visitVariable(VariableTree tree, Void none) {
            String type = String.valueOf(tree.getType());
            checks.holds("rule 3: " + tree, !type.contains("double") && !type.contains("float") && !type.contains("[][][]"));
            return super.visitVariable(tree, none);
        }

        private static String name(Element method) {
            return method.getEnclosingElement() + "." + method;
        }
    }
}
