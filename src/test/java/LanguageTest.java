import com.sun.source.tree.*;
import com.sun.source.util.JavacTask;
import com.sun.source.util.TreePathScanner;
import com.sun.source.util.Trees;
import java.nio.file.Path;
import java.util.ArrayDeque;
import java.util.ArrayList;
import java.util.Deque;
import java.util.EnumSet;
import java.util.List;
import java.util.Map;
import java.util.Set;
import java.util.TreeMap;
import java.util.TreeSet;
import javax.lang.model.element.Element;
import javax.lang.model.element.ElementKind;
import javax.lang.model.element.Modifier;
import javax.tools.JavaCompiler;
import javax.tools.StandardJavaFileManager;
import javax.tools.ToolProvider;

/** The rules of ../shared/LANGUAGE.md that can be told from the tree of the program's source. */
public final class LanguageTest {
    private static final Path SOURCE = Path.of("src/main/java/HunkSlides.java");

    /** What the program takes of the library; a part of what rule 4 lists. */
    private static final Set<String> LIBRARY = Set.of("String.indexOf", "String.length", "Math.max", "Math.min");

    private static final Set<Tree.Kind> FORBIDDEN = EnumSet.of(Tree.Kind.IMPORT, Tree.Kind.PACKAGE,
        Tree.Kind.LAMBDA_EXPRESSION, Tree.Kind.MEMBER_REFERENCE, Tree.Kind.TRY, Tree.Kind.THROW,
        Tree.Kind.SYNCHRONIZED, Tree.Kind.ASSERT, Tree.Kind.ENUM, Tree.Kind.INTERFACE, Tree.Kind.INSTANCE_OF);

    private static int wrong = 0;

    private static void must(boolean holds, String what) {
        if (!holds) {
            wrong++;
            System.out.println("LanguageTest: " + what);
        }
    }

    /** Walks the tree and gathers which method calls which. */
    private static final class Walk extends TreePathScanner<Void, Void> {
        private final Trees trees;
        private final LineMap lines;
        private final CompilationUnitTree unit;
        private final Map<String, Set<String>> calls = new TreeMap<>();
        private final Deque<String> within = new ArrayDeque<>();
        private int classes = 0;
        private boolean making = false;

        Walk(Trees trees, CompilationUnitTree unit) {
            this.trees = trees;
            this.unit = unit;
            this.lines = unit.getLineMap();
        }

        private String at(Tree tree) {
            return " at line " + lineOf(trees.getSourcePositions().getStartPosition(unit, tree));
        }

        private long lineOf(long position) {
            return lines.getLineNumber(position);
        }

        @Override
        public Void scan(Tree tree, Void none) {
            if (tree != null) must(!FORBIDDEN.contains(tree.getKind()), tree.getKind() + at(tree));
            return super.scan(tree, none);
        }

        @Override
        public Void visitClass(ClassTree tree, Void none) {
            classes++;
            int fields = 0;
            for (Tree member : tree.getMembers()) {
                if (member instanceof BlockTree) must(false, "rule 5, a block of initialisers" + at(member));
                if (!(member instanceof VariableTree)) continue;
                Set<Modifier> flags = ((VariableTree) member).getModifiers().getFlags();
                fields += flags.contains(Modifier.STATIC) ? 0 : 1;
                must(!flags.contains(Modifier.STATIC) || flags.contains(Modifier.FINAL), "rule 5, static state" + at(member));
            }
            must(fields <= 20, "rule 11, " + fields + " fields" + at(tree));
            return super.visitClass(tree, none);
        }

        @Override
        public Void visitMethod(MethodTree tree, Void none) {
            long first = lineOf(trees.getSourcePositions().getStartPosition(unit, tree));
            long last = lineOf(trees.getSourcePositions().getEndPosition(unit, tree));
            must(last - first < 60, "rule 11, a long method" + at(tree));
            must(tree.getParameters().size() <= 7, "rule 11, parameters" + at(tree));
            within.push(nameOf(trees.getElement(getCurrentPath())));
            calls.putIfAbsent(within.peek(), new TreeSet<>());
            making = tree.getReturnType() == null;
            super.visitMethod(tree, none);
            making = false;
            within.pop();
            return null;
        }

        @Override
        public Void visitMethodInvocation(MethodInvocationTree tree, Void none) {
            Element called = trees.getElement(getCurrentPath());
            String name = nameOf(called);
            String library = String.valueOf(called.getEnclosingElement());
            if (library.startsWith("java.")) {
                boolean ofConstructor = name.endsWith("Object.<init>");
                must(ofConstructor || LIBRARY.contains(name), "rule 4, " + name + at(tree));
            } else {
                must(!within.isEmpty(), "a call outside a method" + at(tree));
                if (!within.isEmpty()) calls.get(within.peek()).add(name);
            }
            return super.visitMethodInvocation(tree, none);
        }

        @Override
        public Void visitNewClass(NewClassTree tree, Void none) {
            must(making || within.isEmpty(), "an object is made by a call" + at(tree));
            must(tree.getClassBody() == null, "an anonymous class" + at(tree));
            return super.visitNewClass(tree, none);
        }

        @Override
        public Void visitNewArray(NewArrayTree tree, Void none) {
            must(making || within.isEmpty(), "an array is made by a call" + at(tree));
            return super.visitNewArray(tree, none);
        }

        /** The rows that test each index, and the states of the history, are the only arrays. */
        @Override
        public Void visitArrayAccess(ArrayAccessTree tree, Void none) {
            String method = within.isEmpty() ? "" : within.peek();
            must(method.startsWith("HunkSlides.Row.") || method.startsWith("HunkSlides.History."), "an index" + at(tree));
            return super.visitArrayAccess(tree, none);
        }

        @Override
        public Void visitBinary(BinaryTree tree, Void none) {
            boolean text = tree.getKind() == Tree.Kind.PLUS
                && "java.lang.String".equals(String.valueOf(trees.getTypeMirror(getCurrentPath())));
            must(!text, "rule 10, texts joined by +" + at(tree));
            boolean divided = tree.getKind() == Tree.Kind.DIVIDE || tree.getKind() == Tree.Kind.REMAINDER;
            must(!divided || "HunkSlides.alike".equals(within.peek()), "a divisor" + at(tree));
            return super.visitBinary(tree, none);
        }

        private static String nameOf(Element method) {
            String owner = String.valueOf(method.getEnclosingElement());
            return owner.replace("java.lang.", "") + "." + method.getSimpleName();
        }

        /** How deep calls go from a method on; one that comes back to itself is a recursion. */
        private int depthFrom(String method, List<String> open) {
            must(!open.contains(method), "rule 8, a recursion of " + method);
            if (open.contains(method)) return 0;
            open.add(method);
            int deepest = 0;
            for (String next : calls.getOrDefault(method, Set.of())) deepest = Math.max(deepest, depthFrom(next, open));
            open.remove(method);
            return deepest + 1;
        }
    }

    private static Walk walked() throws Exception {
        JavaCompiler compiler = ToolProvider.getSystemJavaCompiler();
        StandardJavaFileManager files = compiler.getStandardFileManager(null, null, null);
        JavacTask task = (JavacTask) compiler.getTask(null, files, null, List.of("--release", "17", "-proc:none"),
            null, files.getJavaFileObjects(SOURCE));
        CompilationUnitTree unit = task.parse().iterator().next();
        task.analyze();
        must(unit.getTypeDecls().size() == 1, "rule 1, one class");
        Walk walk = new Walk(Trees.instance(task), unit);
        walk.scan(unit, null);
        return walk;
    }

    public static void main(String[] args) throws Exception {
        Walk walk = walked();
        must(walk.classes <= 13, "rule 11, " + walk.classes + " classes");
        must(walk.calls.size() > 22, "the methods are seen");
        for (String method : walk.calls.keySet()) {
            int deep = walk.depthFrom(method, new ArrayList<>());
            must(deep <= 8, "rule 11, calls go " + deep + " deep from " + method);
        }
        System.out.println(wrong == 0 ? "LanguageTest: the program keeps to the rules" : "LanguageTest: " + wrong + " wrong");
        if (wrong != 0) System.exit(1);
    }
}
