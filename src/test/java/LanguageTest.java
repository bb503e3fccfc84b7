import com.sun.source.tree.BinaryTree;
import com.sun.source.tree.ClassTree;
import com.sun.source.tree.CompilationUnitTree;
import com.sun.source.tree.CompoundAssignmentTree;
import com.sun.source.tree.ExpressionTree;
import com.sun.source.tree.ForLoopTree;
import com.sun.source.tree.IdentifierTree;
import com.sun.source.tree.ImportTree;
import com.sun.source.tree.MethodInvocationTree;
import com.sun.source.tree.MethodTree;
import com.sun.source.tree.NewArrayTree;
import com.sun.source.tree.NewClassTree;
import com.sun.source.tree.ParenthesizedTree;
import com.sun.source.tree.StatementTree;
import com.sun.source.tree.Tree;
import com.sun.source.tree.TypeCastTree;
import com.sun.source.tree.UnaryTree;
import com.sun.source.tree.VariableTree;
import com.sun.source.util.JavacTask;
import com.sun.source.util.SourcePositions;
import com.sun.source.util.TreePath;
import com.sun.source.util.TreePathScanner;
import com.sun.source.util.Trees;
import java.io.IOException;
import java.nio.file.Files;
import java.nio.file.Path;
import java.util.EnumSet;
import java.util.List;
import java.util.Map;
import java.util.Set;
import java.util.TreeMap;
import java.util.TreeSet;
import javax.lang.model.element.Element;
import javax.lang.model.element.ElementKind;
import javax.lang.model.element.Modifier;
import javax.lang.model.element.VariableElement;
import javax.lang.model.type.TypeMirror;
import javax.tools.JavaCompiler;
import javax.tools.StandardJavaFileManager;
import javax.tools.ToolProvider;

/**
 * The rules of LANGUAGE.md, looked up in the source as the compiler reads it. The class uses less than the
 * rules leave (no list, no text, no while, no recursion); what it does not use is not allowed here either.
 */
public final class LanguageTest {
    private static final Path SOURCE = Path.of("src/main/java/ShutterTown.java");
    private static final String NAME = "ShutterTown";

    private static final Set<Tree.Kind> NEVER = EnumSet.of(Tree.Kind.THROW, Tree.Kind.TRY, Tree.Kind.CATCH,
        Tree.Kind.SYNCHRONIZED, Tree.Kind.ASSERT, Tree.Kind.LAMBDA_EXPRESSION, Tree.Kind.MEMBER_REFERENCE,
        Tree.Kind.INSTANCE_OF, Tree.Kind.WHILE_LOOP, Tree.Kind.DO_WHILE_LOOP, Tree.Kind.STRING_LITERAL,
        Tree.Kind.FLOAT_LITERAL, Tree.Kind.DOUBLE_LITERAL, Tree.Kind.NULL_LITERAL, Tree.Kind.SWITCH_EXPRESSION,
        Tree.Kind.ENUM, Tree.Kind.RECORD, Tree.Kind.INTERFACE, Tree.Kind.ANNOTATION, Tree.Kind.YIELD);

    private static final Set<String> TYPES = Set.of("int", "long", "boolean", "char", "void", "int[]", "long[]");

    private static final Set<String> LIBRARY = Set.of("java.util.Arrays.fill", "java.lang.System.arraycopy",
        "java.lang.Integer.bitCount", "java.lang.Integer.numberOfTrailingZeros", "java.lang.Math.abs",
        "java.lang.Math.min", "java.lang.Math.max", "java.lang.Object.<init>");

    /** Divisors that are no constants: each of them is tested ahead of the division, in the same method. */
    private static final Set<String> TESTED_DIVISORS = Set.of("commonDivisor: greater % less",
        "slams: above / common", "slams: below / common");

    public static void main(String[] args) throws IOException {
        JavaCompiler compiler = ToolProvider.getSystemJavaCompiler();
        try (StandardJavaFileManager files = compiler.getStandardFileManager(null, null, null)) {
            JavacTask task = (JavacTask) compiler.getTask(null, files, null, List.of("-proc:none"), null,
                files.getJavaFileObjects(SOURCE));
            CompilationUnitTree unit = task.parse().iterator().next();
            task.analyze();
            Look look = new Look(Trees.instance(task), unit);
            look.scan(unit, null);
            look.names();
            look.calls();
            look.divisors();
        }
        Check.isTrue("plain signs alone", Files.readString(SOURCE).chars().allMatch(sign -> sign < 128));
        Check.end("LanguageTest");
    }

    /** One walk over the source; what hangs on all of it is asked behind the walk. */
    private static final class Look extends TreePathScanner<Void, Void> {
        private final Trees trees;
        private final CompilationUnitTree unit;
        private final Map<String, Set<String>> called = new TreeMap<>();
        private final Set<String> open = new TreeSet<>();
        private final Set<String> hidden = new TreeSet<>();
        private final Set<String> divisors = new TreeSet<>();
        private int classes = 0;

        Look(Trees trees, CompilationUnitTree unit) {
            this.trees = trees;
            this.unit = unit;
        }

        @Override
        public Void scan(Tree tree, Void nothing) {
            if (tree != null) {
                Check.isTrue(at(tree) + "no " + tree.getKind(), !NEVER.contains(tree.getKind()));
            }
            return super.scan(tree, nothing);
        }

        @Override
        public Void visitImport(ImportTree tree, Void nothing) {
            Check.isTrue("import " + tree.getQualifiedIdentifier(),
                tree.getQualifiedIdentifier().toString().equals("java.util.Arrays") && !tree.isStatic());
            return super.visitImport(tree, nothing);
        }

        @Override
        public Void visitClass(ClassTree tree, Void nothing) {
            Set<Modifier> told = tree.getModifiers().getFlags();
            boolean outer = getCurrentPath().getParentPath().getLeaf() == unit;
            Check.isTrue(at(tree) + "the face, or private static final inside it", outer
                ? tree.getSimpleName().contentEquals(NAME) && told.equals(Set.of(Modifier.PUBLIC, Modifier.FINAL))
                : told.equals(Set.of(Modifier.PRIVATE, Modifier.STATIC, Modifier.FINAL)));
            Check.isTrue(at(tree) + "of no other class", tree.getExtendsClause() == null
                && tree.getImplementsClause().isEmpty() && tree.getTypeParameters().isEmpty());
            classes++;
            Check.isTrue(at(tree) + "twelve classes at most", classes <= 12);
            Check.isTrue(at(tree) + "twenty fields at most", tree.getMembers().stream().filter(Look::isField).count() <= 20);
            Check.isTrue(at(tree) + "no block of its own",
                tree.getMembers().stream().noneMatch(member -> member.getKind() == Tree.Kind.BLOCK));
            return super.visitClass(tree, nothing);
        }

        private static boolean isField(Tree member) {
            return member instanceof VariableTree field && !field.getModifiers().getFlags().contains(Modifier.STATIC);
        }

        @Override
        public Void visitVariable(VariableTree tree, Void nothing) {
            Set<Modifier> told = tree.getModifiers().getFlags();
            typeIsLeft(tree, tree.getType());
            if (told.contains(Modifier.STATIC)) {
                VariableElement element = (VariableElement) element(getCurrentPath());
                boolean row = tree.getInitializer() instanceof NewArrayTree made && made.getInitializers() != null;
                Check.isTrue(at(tree) + "static, so final and written out", told.contains(Modifier.FINAL)
                    && (element.getConstantValue() != null || row));
            }
            return super.visitVariable(tree, nothing);
        }

        private void typeIsLeft(Tree where, Tree type) {
            if (type != null) {
                TypeMirror mirror = trees.getTypeMirror(new TreePath(getCurrentPath(), type));
                String name = mirror == null ? type.toString() : mirror.toString();
                Check.isTrue(at(where) + "a type that is left: " + name, TYPES.contains(name) || name.startsWith(NAME));
            }
        }

        @Override
        public Void visitMethod(MethodTree tree, Void nothing) {
            boolean made = tree.getReturnType() == null;
            typeIsLeft(tree, tree.getReturnType());
            Check.isTrue(at(tree) + "seven parameters at most", tree.getParameters().size() <= 7);
            Check.isTrue(at(tree) + "sixty lines at most", lastLine(tree) - line(tree) < 60);
            Check.isTrue(at(tree) + "throws nothing", tree.getThrows().isEmpty());
            if (!made) {
                boolean isOpen = tree.getModifiers().getFlags().contains(Modifier.PUBLIC);
                (isOpen ? open : hidden).add(tree.getName().toString());
                called.putIfAbsent(method(element(getCurrentPath())), new TreeSet<>());
            }
            return super.visitMethod(tree, nothing);
        }

        @Override
        public Void visitMethodInvocation(MethodInvocationTree tree, Void nothing) {
            Element element = element(new TreePath(getCurrentPath(), tree.getMethodSelect()));
            String name = method(element);
            if (!name.startsWith(NAME)) {
                Check.isTrue(at(tree) + "in the library that is left: " + name, LIBRARY.contains(name));
            } else if (caller() != null) {
                called.computeIfAbsent(caller(), key -> new TreeSet<>()).add(name);
            }
            return super.visitMethodInvocation(tree, nothing);
        }

        @Override
        public Void visitNewClass(NewClassTree tree, Void nothing) {
            Check.isTrue(at(tree) + "made with the object, not by a call", caller() == null);
            Check.isTrue(at(tree) + "no class without a name", tree.getClassBody() == null);
            return super.visitNewClass(tree, nothing);
        }

        @Override
        public Void visitNewArray(NewArrayTree tree, Void nothing) {
            Check.isTrue(at(tree) + "made with the object, not by a call", caller() == null);
            for (ExpressionTree length : tree.getDimensions()) {
                Check.isTrue(at(tree) + "as long as a constant says: " + length, isConstant(length));
            }
            return super.visitNewArray(tree, nothing);
        }

        /** The end is seen from its own lines: a counter, a bound, a step, and no other line that counts. */
        @Override
        public Void visitForLoop(ForLoopTree tree, Void nothing) {
            List<? extends StatementTree> starts = tree.getInitializer();
            boolean counts = starts.size() == 1 && starts.get(0) instanceof VariableTree && tree.getUpdate().size() == 1;
            Check.isTrue(at(tree) + "one counter and one step", counts);
            if (counts) {
                String counter = ((VariableTree) starts.get(0)).getName().toString();
                Check.isTrue(at(tree) + "a bound for " + counter,
                    tree.getCondition() != null && tree.getCondition().toString().startsWith(counter + " < "));
                String step = tree.getUpdate().get(0).getExpression().toString();
                Check.isTrue(at(tree) + "a step of " + counter + ": " + step,
                    step.equals(counter + "++") || step.equals(counter + " += LINE"));
                String body = tree.getStatement().toString();
                Check.isTrue(at(tree) + "the body leaves " + counter,
                    !body.matches("(?s).*\\b" + counter + "( [-+*/|&^%]?= |\\+\\+|--).*"));
            }
            return super.visitForLoop(tree, nothing);
        }

        @Override
        public Void visitBinary(BinaryTree tree, Void nothing) {
            if (tree.getKind() == Tree.Kind.DIVIDE || tree.getKind() == Tree.Kind.REMAINDER) {
                divisor(tree, tree.getRightOperand());
            }
            return super.visitBinary(tree, nothing);
        }

        @Override
        public Void visitCompoundAssignment(CompoundAssignmentTree tree, Void nothing) {
            if (tree.getKind() == Tree.Kind.DIVIDE_ASSIGNMENT || tree.getKind() == Tree.Kind.REMAINDER_ASSIGNMENT) {
                divisor(tree, tree.getExpression());
            }
            return super.visitCompoundAssignment(tree, nothing);
        }

        @Override
        public Void visitTypeCast(TypeCastTree tree, Void nothing) {
            Check.isTrue(at(tree) + "casts among numbers alone", tree.getType().toString().equals("int"));
            return super.visitTypeCast(tree, nothing);
        }

        private void divisor(Tree division, ExpressionTree by) {
            if (!isConstant(by)) {
                String where = caller() == null ? "" : caller().substring(caller().lastIndexOf('.') + 1);
                divisors.add(where + ": " + division);
            }
        }

        /** A number that is written out, a constant, or what is reckoned from such; never 0. */
        private boolean isConstant(ExpressionTree tree) {
            if (tree instanceof ParenthesizedTree inside) {
                return isConstant(inside.getExpression());
            }
            if (tree instanceof BinaryTree both) {
                return isConstant(both.getLeftOperand()) && isConstant(both.getRightOperand());
            }
            if (tree instanceof UnaryTree one) {
                return isConstant(one.getExpression());
            }
            if (tree instanceof IdentifierTree) {
                Element element = element(new TreePath(getCurrentPath(), tree));
                return element instanceof VariableElement named && named.getConstantValue() != null
                    && ((Number) named.getConstantValue()).longValue() != 0;
            }
            return tree.getKind() == Tree.Kind.INT_LITERAL && !tree.toString().equals("0");
        }

        void names() {
            for (String name : hidden) {
                Check.isTrue("no hidden method has an open one's name: " + name, !open.contains(name));
            }
        }

        void divisors() {
            Check.isTrue("divisors: " + divisors, divisors.equals(TESTED_DIVISORS));
        }

        /** By a chain of calls no method comes back to itself, and none goes deeper than eight. */
        void calls() {
            for (String name : called.keySet()) {
                Check.isTrue("eight deep at most: " + name, depth(name, 1) <= 8);
            }
        }

        private int depth(String name, int soFar) {
            int deepest = soFar;
            if (soFar > 20) {
                return soFar;
            }
            for (String next : called.getOrDefault(name, Set.of())) {
                deepest = Math.max(deepest, depth(next, soFar + 1));
            }
            return deepest;
        }

        /** The method around; null in what an object is made by. */
        private String caller() {
            for (TreePath path = getCurrentPath(); path != null; path = path.getParentPath()) {
                if (path.getLeaf() instanceof MethodTree) {
                    Element element = element(path);
                    return element.getKind() == ElementKind.CONSTRUCTOR ? null : method(element);
                }
            }
            return null;
        }

        private Element element(TreePath path) {
            return trees.getElement(path);
        }

        private static String method(Element element) {
            return element.getEnclosingElement() + "." + element.getSimpleName();
        }

        private String at(Tree tree) {
            String name = tree instanceof MethodTree method ? method.getName() + ", " : "";
            return "line " + line(tree) + ": " + name;
        }

        private long line(Tree tree) {
            return unit.getLineMap().getLineNumber(Math.max(0, positions().getStartPosition(unit, tree)));
        }

        private long lastLine(Tree tree) {
            return unit.getLineMap().getLineNumber(Math.max(0, positions().getEndPosition(unit, tree)));
        }

        private SourcePositions positions() {
            return trees.getSourcePositions();
        }
    }
}
