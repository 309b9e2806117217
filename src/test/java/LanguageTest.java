import com.sun.source.tree.*;
import com.sun.source.util.JavacTask;
import com.sun.source.util.TreePathScanner;
import com.sun.source.util.Trees;
import java.nio.file.Path;
import java.util.Arrays;
import java.util.HashSet;
import java.util.LinkedHashMap;
import java.util.LinkedHashSet;
import java.util.List;
import java.util.Map;
import java.util.Set;
import javax.lang.model.element.Element;
import javax.lang.model.element.ElementKind;
import javax.lang.model.element.ExecutableElement;
import javax.lang.model.element.Modifier;
import javax.lang.model.element.TypeElement;
import javax.lang.model.type.TypeKind;
import javax.lang.model.type.TypeMirror;
import javax.tools.JavaCompiler;
import javax.tools.StandardJavaFileManager;
import javax.tools.ToolProvider;

/** The rules of ../shared/LANGUAGE.md that can be seen in the program's text; the numbers are the rules'. */
public final class LanguageTest {
    private static final String PROGRAM = "src/main/java/TokenSums.java";

    // Rule 4, the part of it that the program uses: a call of anything else has to be looked up there.
    private static final Set<String> LIBRARY = new HashSet<>(Arrays.asList(
            "java.util.Arrays.fill", "java.lang.System.arraycopy", "java.lang.Integer.bitCount",
            "java.lang.Math.abs", "java.lang.Math.max", "java.lang.Math.min"));
    private static final Set<String> IMPORTS = new HashSet<>(Arrays.asList(
            "java.util.Arrays", "java.util.NoSuchElementException", "java.util.List", "java.util.ArrayList"));
    private static final Set<String> THROWN = new HashSet<>(Arrays.asList(
            "java.lang.IllegalStateException", "java.lang.IllegalArgumentException",
            "java.lang.IndexOutOfBoundsException", "java.lang.ArithmeticException",
            "java.lang.UnsupportedOperationException", "java.util.NoSuchElementException",
            "java.lang.RuntimeException"));
    private static final Set<Tree.Kind> OUTSIDE = new HashSet<>(Arrays.asList(
            Tree.Kind.LAMBDA_EXPRESSION, Tree.Kind.MEMBER_REFERENCE, Tree.Kind.SYNCHRONIZED, Tree.Kind.ASSERT,
            Tree.Kind.SWITCH_EXPRESSION, Tree.Kind.DOUBLE_LITERAL, Tree.Kind.FLOAT_LITERAL, Tree.Kind.ANNOTATION));

    public static void main(String[] args) throws Exception {
        Due due = new Due("LanguageTest");
        JavaCompiler compiler = ToolProvider.getSystemJavaCompiler();
        try (StandardJavaFileManager files = compiler.getStandardFileManager(null, null, null)) {
            JavacTask task = (JavacTask) compiler.getTask(null, files, null, List.of("-proc:none", "--release", "17"),
                    null, files.getJavaFileObjects(Path.of(PROGRAM)));
            CompilationUnitTree unit = task.parse().iterator().next();
            task.analyze();
            Looker looker = new Looker(due, Trees.instance(task), unit);
            looker.scan(unit, null);
            due.is("1: no package", unit.getPackageName() == null, true);
            due.is("11: some twelve classes", looker.classes <= 12, true);
            looker.depths();
        }
        due.close();
    }

    private static final class Looker extends TreePathScanner<Void, Void> {
        private final Due due;
        private final Trees trees;
        private final CompilationUnitTree unit;
        private final Map<Element, Set<Element>> calls = new LinkedHashMap<>();
        private int classes = 0;
        private Element within = null;

        Looker(Due due, Trees trees, CompilationUnitTree unit) {
            this.due = due;
            this.trees = trees;
            this.unit = unit;
        }

        private void not(String rule, Tree tree) {
            long line = unit.getLineMap().getLineNumber(trees.getSourcePositions().getStartPosition(unit, tree));
            due.is(rule + ", line " + line, true, false);
        }

        @Override
        public Void scan(Tree tree, Void none) {
            if (tree != null && OUTSIDE.contains(tree.getKind())) {
                not("2, 3, 6: " + tree.getKind(), tree);
            }
            return super.scan(tree, none);
        }

        @Override
        public Void visitImport(ImportTree tree, Void none) {
            if (tree.isStatic() || !IMPORTS.contains(tree.getQualifiedIdentifier().toString())) {
                not("4: import", tree);
            }
            return super.visitImport(tree, none);
        }

        @Override
        public Void visitClass(ClassTree tree, Void none) {
            classes++;
            int fields = 0;
            for (Tree member : tree.getMembers()) {
                if (member instanceof BlockTree) {
                    not("5: an initialiser block", member);
                } else if (member instanceof VariableTree) {
                    Set<Modifier> marks = ((VariableTree) member).getModifiers().getFlags();
                    fields += marks.contains(Modifier.STATIC) ? 0 : 1;
                    if (marks.contains(Modifier.STATIC) && !marks.contains(Modifier.FINAL)) {
                        not("5: a static field that is not final", member);
                    }
                }
            }
            due.is("11: fields of " + tree.getSimpleName(), fields <= 20, true);
            return super.visitClass(tree, none);
        }

        @Override
        public Void visitMethod(MethodTree tree, Void none) {
            within = trees.getElement(getCurrentPath());
            calls.putIfAbsent(within, new LinkedHashSet<>());
            long first = unit.getLineMap().getLineNumber(trees.getSourcePositions().getStartPosition(unit, tree));
            long last = unit.getLineMap().getLineNumber(Math.max(0, trees.getSourcePositions().getEndPosition(unit, tree) - 1));
            due.is("11: some sixty lines: " + tree.getName(), last - first < 60, true);
            due.is("11: seven parameters: " + tree.getName(), tree.getParameters().size() <= 7, true);
            return super.visitMethod(tree, none);
        }

        @Override
        public Void visitMethodInvocation(MethodInvocationTree tree, Void none) {
            Element called = trees.getElement(getCurrentPath());
            String owner = ((TypeElement) called.getEnclosingElement()).getQualifiedName().toString();
            boolean own = owner.startsWith("TokenSums");
            boolean above = called.getKind() == ElementKind.CONSTRUCTOR;
            if (!own && !above && !LIBRARY.contains(owner + "." + called.getSimpleName())) {
                not("4: " + owner + "." + called.getSimpleName(), tree);
            }
            if (own && within != null) {
                calls.get(within).add(called);
            }
            return super.visitMethodInvocation(tree, none);
        }

        @Override
        public Void visitThrow(ThrowTree tree, Void none) {
            ExpressionTree made = tree.getExpression();
            boolean good = made instanceof NewClassTree
                    && THROWN.contains(((ExecutableElement) trees.getElement(new com.sun.source.util.TreePath(getCurrentPath(), made)))
                            .getEnclosingElement().toString());
            if (!good || within.getKind() == ElementKind.CONSTRUCTOR) {
                not("6: what is thrown", tree);
            }
            return super.visitThrow(tree, none);
        }

        @Override
        public Void visitTry(TryTree tree, Void none) {
            // The program answers no call by a catch; should one come, it must be held against rule 6.
            not("6, 7: a try", tree);
            return super.visitTry(tree, none);
        }

        @Override
        public Void visitBinary(BinaryTree tree, Void none) {
            TypeMirror type = trees.getTypeMirror(getCurrentPath());
            if (tree.getKind() == Tree.Kind.PLUS && !type.getKind().isPrimitive()) {
                not("10: texts joined by +", tree);
            }
            return super.visitBinary(tree, none);
        }

        @Override
        public Void visitVariable(VariableTree tree, Void none) {
            TypeKind kind = trees.getTypeMirror(getCurrentPath()).getKind();
            if (kind == TypeKind.DOUBLE || kind == TypeKind.FLOAT) {
                not("3: the program needs whole numbers alone", tree);
            }
            return super.visitVariable(tree, none);
        }

        @Override
        public Void visitLiteral(LiteralTree tree, Void none) {
            if (tree.getValue() instanceof String) {
                for (char c : ((String) tree.getValue()).toCharArray()) {
                    if (c < 1 || c > 127) {
                        not("4: a sign of a text", tree);
                    }
                }
            }
            return super.visitLiteral(tree, none);
        }

        /** 11: calls that are no recursion go at most eight deep. */
        void depths() {
            for (Element method : calls.keySet()) {
                due.is("11: eight deep: " + method, depth(method, new HashSet<>()) <= 8, true);
            }
        }

        private int depth(Element method, Set<Element> open) {
            if (!open.add(method)) {
                return 0;
            }
            int most = 0;
            for (Element called : calls.getOrDefault(method, Set.of())) {
                most = Math.max(most, depth(called, open));
            }
            open.remove(method);
            return most + 1;
        }
    }
}
