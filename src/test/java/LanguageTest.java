import com.sun.source.tree.ClassTree;
import com.sun.source.tree.CompilationUnitTree;
import com.sun.source.tree.MethodInvocationTree;
import com.sun.source.tree.MethodTree;
import com.sun.source.tree.NewArrayTree;
import com.sun.source.tree.NewClassTree;
import com.sun.source.tree.Tree;
import com.sun.source.tree.VariableTree;
import com.sun.source.util.JavacTask;
import com.sun.source.util.TreePathScanner;
import com.sun.source.util.Trees;
import java.nio.file.Path;
import java.util.ArrayList;
import java.util.HashMap;
import java.util.HashSet;
import java.util.List;
import java.util.Map;
import java.util.Set;
import java.util.TreeMap;
import javax.lang.model.element.Element;
import javax.lang.model.element.ElementKind;
import javax.lang.model.element.Modifier;
import javax.lang.model.element.TypeElement;
import javax.tools.JavaCompiler;
import javax.tools.StandardJavaFileManager;
import javax.tools.ToolProvider;

/** Looks at the program's own text: what of LANGUAGE.md can be counted there. */
public final class LanguageTest {
    private static final Due due = new Due();
    private static final Set<Tree.Kind> FORBIDDEN = Set.of(Tree.Kind.THROW, Tree.Kind.TRY, Tree.Kind.CATCH,
        Tree.Kind.SYNCHRONIZED, Tree.Kind.ASSERT, Tree.Kind.LAMBDA_EXPRESSION, Tree.Kind.MEMBER_REFERENCE, Tree.Kind.IMPORT,
        Tree.Kind.PACKAGE, Tree.Kind.ANNOTATION, Tree.Kind.STRING_LITERAL, Tree.Kind.SWITCH_EXPRESSION);
    private static final Set<String> LIBRARY = Set.of("java.lang.Math.abs", "java.lang.Math.min", "java.lang.Math.max",
        "java.lang.Integer.bitCount", "java.lang.Long.bitCount", "java.lang.System.arraycopy");

    private static final Map<Element, Set<Element>> calls = new HashMap<>();
    private static final Map<Element, Boolean> isOpen = new HashMap<>();
    private static int classes;

    public static void main(String[] args) throws Exception {
        JavaCompiler compiler = ToolProvider.getSystemJavaCompiler();
        StandardJavaFileManager files = compiler.getStandardFileManager(null, null, null);
        JavacTask task = (JavacTask) compiler.getTask(null, files, null, List.of("-proc:none"), null,
            files.getJavaFileObjects(Path.of("src/main/java/DrownedLight.java")));
        Iterable<? extends CompilationUnitTree> units = task.parse();
        task.analyze();
        for (CompilationUnitTree unit : units) {
            new Reader(unit, Trees.instance(task)).scan(unit, null);
        }
        due.is("classes, twelve at most: " + classes, classes <= 12 ? 1 : 0, 1);
        recursion();
        depth();
        due.end();
    }

    private static final class Reader extends TreePathScanner<Void, Void> {
        private final CompilationUnitTree unit;
        private final Trees trees;
        private Element method;

        Reader(CompilationUnitTree unit, Trees trees) {
            this.unit = unit;
            this.trees = trees;
        }

        private long line(long position) {
            return unit.getLineMap().getLineNumber(position);
        }

        private long start(Tree tree) {
            return trees.getSourcePositions().getStartPosition(unit, tree);
        }

        @Override
        public Void scan(Tree tree, Void nothing) {
            if (tree != null && FORBIDDEN.contains(tree.getKind())) {
                due.is("line " + line(start(tree)) + " has " + tree.getKind(), 1, 0);
            }
            return super.scan(tree, nothing);
        }

        @Override
        public Void visitClass(ClassTree tree, Void nothing) {
            classes++;
            Element element = trees.getElement(getCurrentPath());
            boolean inside = element.getEnclosingElement().getKind() != ElementKind.PACKAGE;
            Set<Modifier> modifiers = element.getModifiers();
            due.is(tree.getSimpleName() + " is final", modifiers.contains(Modifier.FINAL) ? 1 : 0, 1);
            if (inside) {
                due.is(tree.getSimpleName() + " is private, static",
                    modifiers.contains(Modifier.STATIC) && modifiers.contains(Modifier.PRIVATE) ? 1 : 0, 1);
            }
            int fields = 0;
            Set<String> open = new HashSet<>();
            for (Tree member : tree.getMembers()) {
                if (member instanceof VariableTree v) {
                    boolean isStatic = v.getModifiers().getFlags().contains(Modifier.STATIC);
                    fields += isStatic ? 0 : 1;
                    due.is(v.getName() + ": what is static is final",
                        isStatic && !v.getModifiers().getFlags().contains(Modifier.FINAL) ? 1 : 0, 0);
                }
                if (member.getKind() == Tree.Kind.BLOCK) {
                    due.is(tree.getSimpleName() + " has a block", 1, 0);
                }
            }
            due.is(tree.getSimpleName() + " has fields: " + fields, fields <= 20 ? 1 : 0, 1);
            return super.visitClass(tree, nothing);
        }

        @Override
        public Void visitMethod(MethodTree tree, Void nothing) {
            method = trees.getElement(getCurrentPath());
            calls.putIfAbsent(method, new HashSet<>());
            isOpen.put(method, method.getModifiers().contains(Modifier.PUBLIC));
            if (tree.getBody() != null && start(tree) >= 0) {
                long from = line(start(tree));
                long to = line(trees.getSourcePositions().getEndPosition(unit, tree));
                due.is(tree.getName() + " is of lines: " + (to - from + 1), to - from + 1 <= 60 ? 1 : 0, 1);
            }
            due.is(tree.getName() + " has parameters", tree.getParameters().size() <= 7 ? 1 : 0, 1);
            for (Element other : method.getEnclosingElement().getEnclosedElements()) {
                if (other.getKind() == ElementKind.METHOD && other != method) {
                    due.is(tree.getName() + " is a name twice", other.getSimpleName().equals(tree.getName()) ? 1 : 0, 0);
                }
            }
            super.visitMethod(tree, nothing);
            method = null;
            return null;
        }

        private void called(Tree tree) {
            Element target = trees.getElement(getCurrentPath());
            if (target == null || method == null) {
                return;
            }
            String owner = ((TypeElement) target.getEnclosingElement()).getQualifiedName().toString();
            if (owner.startsWith("java.")) {
                boolean fine = LIBRARY.contains(owner + "." + target.getSimpleName()) || target.getKind() == ElementKind.CONSTRUCTOR
                    && owner.equals("java.lang.Object");
                due.is("line " + line(start(tree)) + " calls " + owner + "." + target.getSimpleName(), fine ? 1 : 0, 1);
                return;
            }
            calls.get(method).add(target);
        }

        @Override
        public Void visitMethodInvocation(MethodInvocationTree tree, Void nothing) {
            called(tree);
            return super.visitMethodInvocation(tree, nothing);
        }

        /** All of a run lives in one room, so objects are made with the class alone. */
        private void made(Tree tree) {
            due.is("line " + line(start(tree)) + " makes an object in a call",
                method != null && method.getKind() == ElementKind.METHOD ? 1 : 0, 0);
        }

        @Override
        public Void visitNewArray(NewArrayTree tree, Void nothing) {
            made(tree);
            return super.visitNewArray(tree, nothing);
        }

        @Override
        public Void visitNewClass(NewClassTree tree, Void nothing) {
            called(tree);
            made(tree);
            due.is("a class without a name", tree.getClassBody() == null ? 0 : 1, 0);
            return super.visitNewClass(tree, nothing);
        }
    }

    private static boolean reaches(Element from, Element to, Set<Element> seen) {
        for (Element next : calls.getOrDefault(from, Set.of())) {
            if (next == to || seen.add(next) && reaches(next, to, seen)) {
                return true;
            }
        }
        return false;
    }

    /** Only the reading of a TEXT and the acts may call themselves, and only by way of one another. */
    private static void recursion() {
        due.promise("rule 8");
        Set<String> want = Set.of("readTier", "readPart", "readOperand", "any", "run", "perform");
        for (Element e : calls.keySet()) {
            boolean again = reaches(e, e, new HashSet<>());
            due.is(e + " calls itself", again ? 1 : 0, want.contains(e.getSimpleName().toString()) ? 1 : 0);
            due.is(e + " itself", calls.get(e).contains(e) ? 1 : 0, 0);
            if (again) {
                due.is(e + " is private", e.getModifiers().contains(Modifier.PRIVATE) ? 1 : 0, 1);
            }
        }
    }

    private static int deepest(Element from, List<Element> path, List<Element> longest) {
        path.add(from);
        if (path.size() > longest.size()) {
            longest.clear();
            longest.addAll(path);
        }
        int deepest = 1;
        for (Element next : calls.getOrDefault(from, Set.of())) {
            if (!path.contains(next)) {
                deepest = Math.max(deepest, 1 + deepest(next, path, longest));
            }
        }
        path.remove(path.size() - 1);
        return deepest;
    }

    private static void depth() {
        due.promise("rule 11");
        Set<String> open = new HashSet<>();
        Map<String, Integer> depths = new TreeMap<>();
        for (Element e : calls.keySet()) {
            if (isOpen.getOrDefault(e, false)) {
                open.add(e.getSimpleName().toString());
                List<Element> longest = new ArrayList<>();
                int deepest = deepest(e, new ArrayList<>(), longest);
                depths.put(e.toString(), deepest);
                due.is("calls in " + e + " go deep: " + longest, deepest <= 8 ? 1 : 0, 1);
            }
        }
        for (Element e : calls.keySet()) {
            if (!isOpen.getOrDefault(e, false)) {
                due.is(e + " bears the name of a public one", open.contains(e.getSimpleName().toString())
                    && e.getKind() == ElementKind.METHOD ? 1 : 0, 0);
            }
        }
        System.out.println("how deep the calls go: " + depths);
    }
}
