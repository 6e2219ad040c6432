import com.sun.source.tree.AssertTree;
import com.sun.source.tree.BinaryTree;
import com.sun.source.tree.BlockTree;
import com.sun.source.tree.CatchTree;
import com.sun.source.tree.ClassTree;
import com.sun.source.tree.CompilationUnitTree;
import com.sun.source.tree.ExpressionTree;
import com.sun.source.tree.ImportTree;
import com.sun.source.tree.LambdaExpressionTree;
import com.sun.source.tree.LiteralTree;
import com.sun.source.tree.MemberReferenceTree;
import com.sun.source.tree.MethodInvocationTree;
import com.sun.source.tree.MethodTree;
import com.sun.source.tree.NewClassTree;
import com.sun.source.tree.SynchronizedTree;
import com.sun.source.tree.ThrowTree;
import com.sun.source.tree.Tree;
import com.sun.source.tree.TryTree;
import com.sun.source.tree.VariableTree;
import com.sun.source.util.JavacTask;
import com.sun.source.util.SourcePositions;
import com.sun.source.util.TreePathScanner;
import com.sun.source.util.Trees;
import java.io.File;
import java.util.HashMap;
import java.util.HashSet;
import java.util.List;
import java.util.Map;
import java.util.Set;
import javax.lang.model.element.Element;
import javax.lang.model.element.ElementKind;
import javax.lang.model.element.ExecutableElement;
import javax.lang.model.element.Modifier;
import javax.lang.model.element.VariableElement;
import javax.tools.JavaCompiler;
import javax.tools.StandardJavaFileManager;
import javax.tools.ToolProvider;

/** The rules of LANGUAGE.md that can be counted, asked of the source of the class as the compiler reads it. */
public final class LanguageTest {
    private static final String SOURCE = "src/main/java/SettingStore.java";
    private static final int MOST_LINES = 60;
    private static final int MOST_PARAMETERS = 7;
    private static final int MOST_DEEP = 8;
    private static final int MOST_CLASSES = 12;
    private static final int MOST_FIELDS = 20;

    /** Less than rule 4 lists: what the class uses, and a little more. One that is missing is looked up there first. */
    private static final Set<String> LIBRARY = Set.of(
        "java.util.Arrays.fill", "java.util.Arrays.copyOf", "java.util.Arrays.copyOfRange", "java.lang.System.arraycopy",
        "java.lang.Math.max", "java.lang.Math.min", "java.lang.Math.abs", "java.lang.Integer.bitCount",
        "java.lang.Long.bitCount");
    private static final Set<String> TYPES = Set.of("int", "long", "short", "byte", "char", "boolean", "double", "float",
        "java.lang.String", "java.lang.StringBuilder");
    private static final Set<String> CONSTANTS = Set.of("int", "long", "boolean", "char", "java.lang.String");
    private static final Set<String> THROWN = Set.of("IllegalStateException", "IllegalArgumentException",
        "IndexOutOfBoundsException", "ArithmeticException", "UnsupportedOperationException", "NoSuchElementException",
        "RuntimeException");
    private static final Set<String> IMPORTS = Set.of("java.util.Arrays", "java.util.ArrayList", "java.util.List",
        "java.util.Iterator", "java.util.NoSuchElementException");

    private LanguageTest() {
    }

    public static void main(String[] args) throws Exception {
        JavaCompiler javac = ToolProvider.getSystemJavaCompiler();
        try (StandardJavaFileManager files = javac.getStandardFileManager(null, null, null)) {
            JavacTask task = (JavacTask) javac.getTask(null, files, null, List.of("-proc:none"), null,
                files.getJavaFileObjects(new File(SOURCE)));
            CompilationUnitTree unit = task.parse().iterator().next();
            task.analyze();
            Rules rules = new Rules(Trees.instance(task), unit);
            rules.scan(unit, null);
            rules.wholeFile();
        }
        Check.finish("LanguageTest");
    }

    private static final class Rules extends TreePathScanner<Void, Void> {
        private final Trees trees;
        private final CompilationUnitTree unit;
        private final Map<Element, Set<Element>> calls = new HashMap<>();
        private final Map<Element, Integer> depths = new HashMap<>();
        private int classes;
        private Element method;

        Rules(Trees trees, CompilationUnitTree unit) {
            this.trees = trees;
            this.unit = unit;
        }

        private void rule(int number, String where, boolean kept) {
            Check.due("rule " + number + " of LANGUAGE.md is kept: " + where, kept, true);
        }

        private void never(int number, Tree tree) {
            rule(number, tree.toString(), false);
        }

        private Element told(Tree tree) {
            return trees.getElement(trees.getPath(unit, tree));
        }

        void wholeFile() {
            Check.due("a package line", unit.getPackageName() != null, false);
            Check.due("classes of the file's own level", unit.getTypeDecls().size(), 1);
            rule(11, classes + " classes", classes <= MOST_CLASSES);
            for (Element each : new HashSet<>(calls.keySet())) {
                int deep = depth(each, new HashSet<>());
                rule(11, each.getEnclosingElement() + "." + each + ", calls " + deep + " deep", deep <= MOST_DEEP);
            }
        }

        /** How many calls stand open at once below and with this one; a recursion is refused. */
        private int depth(Element each, Set<Element> open) {
            if (!calls.containsKey(each)) {
                return 0;
            }
            if (!open.add(each)) {
                rule(8, each + " calls itself", false);
                return MOST_DEEP;
            }
            Integer known = depths.get(each);
            int deepest = 0;
            if (known == null) {
                for (Element called : calls.get(each)) {
                    deepest = Math.max(deepest, depth(called, open));
                }
                depths.put(each, deepest + 1);
            }
            open.remove(each);
            return depths.get(each);
        }

        @Override
        public Void visitImport(ImportTree tree, Void none) {
            String name = tree.getQualifiedIdentifier().toString();
            rule(4, "import " + name, IMPORTS.contains(name) && !tree.isStatic());
            return super.visitImport(tree, none);
        }

        @Override
        public Void visitClass(ClassTree tree, Void none) {
            classes++;
            int fields = 0;
            for (Tree member : tree.getMembers()) {
                rule(5, "no initialiser block in " + tree.getSimpleName(), !(member instanceof BlockTree));
                if (member instanceof VariableTree v && !v.getModifiers().getFlags().contains(Modifier.STATIC)) {
                    fields++;
                }
            }
            rule(11, tree.getSimpleName() + " has " + fields + " fields", fields <= MOST_FIELDS);
            if (told(tree) != null && told(tree).getEnclosingElement().getKind() == ElementKind.CLASS) {
                rule(1, tree.getSimpleName() + " is static", told(tree).getModifiers().contains(Modifier.STATIC));
            }
            return super.visitClass(tree, none);
        }

        @Override
        public Void visitMethod(MethodTree tree, Void none) {
            Element outer = method;
            method = told(tree);
            calls.computeIfAbsent(method, m -> new HashSet<>());
            rule(11, tree.getName() + " has " + tree.getParameters().size() + " parameters",
                tree.getParameters().size() <= MOST_PARAMETERS);
            SourcePositions places = trees.getSourcePositions();
            long from = unit.getLineMap().getLineNumber(Math.max(0, places.getStartPosition(unit, tree)));
            long to = unit.getLineMap().getLineNumber(Math.max(0, places.getEndPosition(unit, tree)));
            rule(11, tree.getName() + " has " + (to - from + 1) + " lines", to - from < MOST_LINES);
            super.visitMethod(tree, none);
            method = outer;
            return null;
        }

        @Override
        public Void visitVariable(VariableTree tree, Void none) {
            VariableElement v = (VariableElement) told(tree);
            String type = v.asType().toString();
            String bare = type.replace("[]", "");
            rule(3, type + " " + v, TYPES.contains(bare) || bare.startsWith("SettingStore"));
            rule(3, type + " " + v + ": dimensions", type.length() - bare.length() <= 4);
            if (v.getModifiers().contains(Modifier.STATIC)) {
                rule(5, "static " + type + " " + v, v.getModifiers().contains(Modifier.FINAL));
                rule(5, "constant " + type + " " + v, CONSTANTS.contains(type) && v.getConstantValue() != null);
            }
            return super.visitVariable(tree, none);
        }

        @Override
        public Void visitMethodInvocation(MethodInvocationTree tree, Void none) {
            ExecutableElement called = (ExecutableElement) told(tree.getMethodSelect());
            String owner = called.getEnclosingElement().toString();
            if (method != null) {
                calls.get(method).add(called);
            }
            boolean parent = called.getKind() == ElementKind.CONSTRUCTOR;
            String name = owner + "." + called.getSimpleName();
            rule(4, name, parent || owner.startsWith("SettingStore") || LIBRARY.contains(name));
            return super.visitMethodInvocation(tree, none);
        }

        @Override
        public Void visitNewClass(NewClassTree tree, Void none) {
            String name = tree.getIdentifier().toString();
            Element made = told(tree.getIdentifier());
            boolean own = made.toString().startsWith("SettingStore.");
            rule(4, "new " + name, own || THROWN.contains(name));
            rule(2, "new " + name, tree.getClassBody() == null);
            return super.visitNewClass(tree, none);
        }

        @Override
        public Void visitThrow(ThrowTree tree, Void none) {
            rule(6, "a throw in a constructor", method.getKind() != ElementKind.CONSTRUCTOR);
            ExpressionTree thrown = tree.getExpression();
            boolean plain = false;
            if (thrown instanceof NewClassTree made && THROWN.contains(made.getIdentifier().toString())) {
                plain = made.getArguments().isEmpty()
                    || made.getArguments().size() == 1 && made.getArguments().get(0) instanceof LiteralTree;
            }
            rule(6, tree.toString(), plain);
            return super.visitThrow(tree, none);
        }

        @Override
        public Void visitTry(TryTree tree, Void none) {
            rule(6, "try", tree.getFinallyBlock() == null && tree.getResources().isEmpty());
            return super.visitTry(tree, none);
        }

        /** The class has no need of a catch; one that comes is to be looked at, as the machine's own must never be met. */
        @Override
        public Void visitCatch(CatchTree tree, Void none) {
            never(6, tree);
            return super.visitCatch(tree, none);
        }

        @Override
        public Void visitLiteral(LiteralTree tree, Void none) {
            if (tree.getValue() instanceof String text) {
                rule(4, "signs of " + tree, text.chars().allMatch(c -> c >= 1 && c <= 127));
            }
            return super.visitLiteral(tree, none);
        }

        @Override
        public Void visitBinary(BinaryTree tree, Void none) {
            String type = String.valueOf(trees.getTypeMirror(getCurrentPath()));
            rule(10, tree + " is no joining of texts", !type.equals("java.lang.String"));
            return super.visitBinary(tree, none);
        }

        @Override
        public Void visitLambdaExpression(LambdaExpressionTree tree, Void none) {
            never(2, tree);
            return null;
        }

        @Override
        public Void visitMemberReference(MemberReferenceTree tree, Void none) {
            never(2, tree);
            return null;
        }

        @Override
        public Void visitSynchronized(SynchronizedTree tree, Void none) {
            never(6, tree);
            return null;
        }

        @Override
        public Void visitAssert(AssertTree tree, Void none) {
            never(6, tree);
            return null;
        }
    }
}
