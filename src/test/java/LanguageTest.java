import com.sun.source.tree.AssertTree;
import com.sun.source.tree.BinaryTree;
import com.sun.source.tree.CatchTree;
import com.sun.source.tree.ClassTree;
import com.sun.source.tree.CompilationUnitTree;
import com.sun.source.tree.IdentifierTree;
import com.sun.source.tree.ImportTree;
import com.sun.source.tree.LambdaExpressionTree;
import com.sun.source.tree.LiteralTree;
import com.sun.source.tree.MemberReferenceTree;
import com.sun.source.tree.MethodInvocationTree;
import com.sun.source.tree.MethodTree;
import com.sun.source.tree.NewClassTree;
import com.sun.source.tree.SynchronizedTree;
import com.sun.source.tree.ThrowTree;
import com.sun.source.tree.Tree;
import com.sun.source.tree.TryTree;
import com.sun.source.tree.VariableTree;
import com.sun.source.tree.WhileLoopTree;
import com.sun.source.util.JavacTask;
import com.sun.source.util.TreePathScanner;
import com.sun.source.util.Trees;
import java.io.File;
import java.io.IOException;
import java.util.List;
import java.util.Map;
import java.util.Set;
import java.util.TreeMap;
import java.util.TreeSet;
import javax.lang.model.element.Element;
import javax.lang.model.element.ElementKind;
import javax.lang.model.element.Modifier;
import javax.tools.JavaCompiler;
import javax.tools.StandardJavaFileManager;
import javax.tools.ToolProvider;

/** Those rules of LANGUAGE.md that the class's own text shows; run from the project's folder. */
public final class LanguageTest {
    private static final String SOURCE = "src/main/java/GuestHouse.java";
    private static final Set<String> IMPORTS = Set.of(
        "java.util.Arrays", "java.util.ArrayList", "java.util.List", "java.util.NoSuchElementException");
    private static final Set<String> LIBRARY = Set.of(
        "java.lang.Math.max", "java.lang.Math.min", "java.lang.Math.abs", "java.lang.Integer.bitCount",
        "java.lang.Long.bitCount", "java.lang.Object.<init>", "java.lang.System.arraycopy");
    private static final Set<String> TYPES = Set.of("int", "long", "boolean", "char", "String", "int[]", "long[]");
    private static final int LINES = 60;
    private static final int PARAMETERS = 7;
    private static final int DEPTH = 8;
    private static final int CLASSES = 12;
    private static final int FIELDS = 20;

    public static void main(String[] args) throws IOException {
        JavaCompiler compiler = ToolProvider.getSystemJavaCompiler();
        try (StandardJavaFileManager files = compiler.getStandardFileManager(null, null, null)) {
            JavacTask task = (JavacTask) compiler.getTask(null, files, null, List.of("-proc:none"), null,
                files.getJavaFileObjects(new File(SOURCE)));
            Iterable<? extends CompilationUnitTree> units = task.parse();
            task.analyze();
            Look look = new Look(Trees.instance(task));
            for (CompilationUnitTree unit : units) {
                Check.yes("no package", unit.getPackage() == null);
                look.scan(unit, null);
            }
            Check.yes("classes: " + look.classes, look.classes >= 1 && look.classes <= CLASSES);
            for (String method : look.calls.keySet()) {
                look.depth(method, new TreeSet<>());
            }
        }
        Check.end();
    }

    private static final class Look extends TreePathScanner<Void, Void> {
        private final Trees trees;
        private final Map<String, Set<String>> calls = new TreeMap<>();
        private final Map<String, Integer> known = new TreeMap<>();
        private int classes;
        private String method = "";

        Look(Trees trees) {
            this.trees = trees;
        }

        private long line(long at) {
            return getCurrentPath().getCompilationUnit().getLineMap().getLineNumber(at);
        }

        private void refuse(String what, Tree tree) {
            long at = trees.getSourcePositions().getStartPosition(getCurrentPath().getCompilationUnit(), tree);
            Check.no("line " + line(at) + ": " + what, true);
        }

        /** The calls that stand open at the deepest, this one too; a circle is refused. */
        private int depth(String name, Set<String> open) {
            if (known.containsKey(name)) {
                return known.get(name);
            }
            boolean circle = !open.add(name);
            Check.no(name + " calls itself", circle);
            int most = 0;
            if (!circle) {
                for (String called : calls.getOrDefault(name, Set.of())) {
                    most = Math.max(most, depth(called, open));
                }
                open.remove(name);
            }
            Check.yes(name + " is " + (most + 1) + " deep", most + 1 <= DEPTH);
            known.put(name, most + 1);
            return most + 1;
        }

        private static String named(Element element) {
            return element.getEnclosingElement() + "." + element.getSimpleName();
        }

        @Override
        public Void visitImport(ImportTree tree, Void none) {
            Check.yes("import " + tree.getQualifiedIdentifier(),
                IMPORTS.contains(tree.getQualifiedIdentifier().toString()) && !tree.isStatic());
            return super.visitImport(tree, none);
        }

        @Override
        public Void visitClass(ClassTree tree, Void none) {
            classes++;
            int fields = 0;
            for (Tree member : tree.getMembers()) {
                if (member instanceof VariableTree) {
                    VariableTree field = (VariableTree) member;
                    Set<Modifier> marks = field.getModifiers().getFlags();
                    fields += marks.contains(Modifier.STATIC) ? 0 : 1;
                    if (marks.contains(Modifier.STATIC)) {
                        Check.yes(field.getName() + " is a constant",
                            marks.contains(Modifier.FINAL) && TYPES.contains(field.getType().toString()));
                    }
                } else if (member.getKind() == Tree.Kind.BLOCK) {
                    refuse("an initialiser block", member);
                }
            }
            Check.yes("fields of " + tree.getSimpleName(), fields <= FIELDS);
            return super.visitClass(tree, none);
        }

        @Override
        public Void visitMethod(MethodTree tree, Void none) {
            CompilationUnitTree unit = getCurrentPath().getCompilationUnit();
            long first = line(trees.getSourcePositions().getStartPosition(unit, tree));
            long last = line(trees.getSourcePositions().getEndPosition(unit, tree));
            method = named(trees.getElement(getCurrentPath()));
            calls.computeIfAbsent(method, k -> new TreeSet<>());
            Check.yes(method + " is short", last - first < LINES);
            Check.yes(method + " takes few", tree.getParameters().size() <= PARAMETERS);
            return super.visitMethod(tree, none);
        }

        @Override
        public Void visitMethodInvocation(MethodInvocationTree tree, Void none) {
            callTo(trees.getElement(getCurrentPath()));
            return super.visitMethodInvocation(tree, none);
        }

        private void callTo(Element called) {
            String name = named(called);
            if (name.equals("java.util.Arrays.fill")) {
                Check.no(method + ": Arrays.fill over numbers alone", called.toString().contains("boolean"));
            } else if (name.startsWith("java")) {
                Check.yes(method + " uses " + name, LIBRARY.contains(name));
            } else {
                calls.get(method).add(name);
            }
        }

        @Override
        public Void visitNewClass(NewClassTree tree, Void none) {
            Element made = trees.getElement(getCurrentPath());
            if (made != null && !named(made).startsWith("java")) {
                calls.computeIfAbsent(method, k -> new TreeSet<>()).add(named(made));
            }
            return super.visitNewClass(tree, none);
        }

        @Override
        public Void visitThrow(ThrowTree tree, Void none) {
            boolean fine = tree.getExpression() instanceof NewClassTree;
            if (fine) {
                NewClassTree made = (NewClassTree) tree.getExpression();
                fine = made.getIdentifier().toString().equals("NoSuchElementException");
                for (Tree argument : made.getArguments()) {
                    fine &= argument instanceof LiteralTree;
                }
            }
            Check.yes(method + " throws what the document names", fine && method.equals("GuestHouse.promised"));
            return super.visitThrow(tree, none);
        }

        @Override
        public Void visitIdentifier(IdentifierTree tree, Void none) {
            String name = tree.getName().toString();
            if (name.equals("double") || name.equals("float") || name.equals("Object")) {
                refuse(name, tree);
            }
            return super.visitIdentifier(tree, none);
        }

        @Override
        public Void visitBinary(BinaryTree tree, Void none) {
            boolean parts = tree.getKind() == Tree.Kind.DIVIDE || tree.getKind() == Tree.Kind.REMAINDER;
            Check.yes(method + ": " + tree + " divides by a written number",
                !parts || tree.getRightOperand() instanceof LiteralTree);
            return super.visitBinary(tree, none);
        }

        @Override
        public Void visitWhileLoop(WhileLoopTree tree, Void none) {
            refuse("a loop without a counter", tree);
            return super.visitWhileLoop(tree, none);
        }

        @Override
        public Void visitLambdaExpression(LambdaExpressionTree tree, Void none) {
            refuse("a lambda", tree);
            return super.visitLambdaExpression(tree, none);
        }

        @Override
        public Void visitMemberReference(MemberReferenceTree tree, Void none) {
            refuse("a method reference", tree);
            return super.visitMemberReference(tree, none);
        }

        @Override
        public Void visitTry(TryTree tree, Void none) {
            refuse("a try", tree);
            return super.visitTry(tree, none);
        }

        @Override
        public Void visitCatch(CatchTree tree, Void none) {
            refuse("a catch", tree);
            return super.visitCatch(tree, none);
        }

        @Override
        public Void visitSynchronized(SynchronizedTree tree, Void none) {
            refuse("synchronized", tree);
            return super.visitSynchronized(tree, none);
        }

        @Override
        public Void visitAssert(AssertTree tree, Void none) {
            refuse("an assert", tree);
            return super.visitAssert(tree, none);
        }

        @Override
        public Void visitVariable(VariableTree tree, Void none) {
            Element element = trees.getElement(getCurrentPath());
            if (element != null && element.getKind() == ElementKind.EXCEPTION_PARAMETER) {
                refuse("an exception that is caught", tree);
            }
            return super.visitVariable(tree, none);
        }
    }
}
