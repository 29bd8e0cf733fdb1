import com.sun.source.tree.BinaryTree;
import com.sun.source.tree.BlockTree;
import com.sun.source.tree.ClassTree;
import com.sun.source.tree.CompilationUnitTree;
import com.sun.source.tree.CompoundAssignmentTree;
import com.sun.source.tree.ExpressionTree;
import com.sun.source.tree.ForLoopTree;
import com.sun.source.tree.LineMap;
import com.sun.source.tree.LiteralTree;
import com.sun.source.tree.MethodInvocationTree;
import com.sun.source.tree.MethodTree;
import com.sun.source.tree.NewArrayTree;
import com.sun.source.tree.NewClassTree;
import com.sun.source.tree.Tree;
import com.sun.source.tree.TypeCastTree;
import com.sun.source.tree.VariableTree;
import com.sun.source.tree.WhileLoopTree;
import com.sun.source.util.JavacTask;
import com.sun.source.util.TreePath;
import com.sun.source.util.TreePathScanner;
import com.sun.source.util.Trees;
import java.io.IOException;
import java.nio.file.Path;
import java.util.HashMap;
import java.util.HashSet;
import java.util.List;
import java.util.Map;
import java.util.Set;
import java.util.regex.Pattern;
import javax.lang.model.element.Element;
import javax.lang.model.element.ElementKind;
import javax.lang.model.element.Modifier;
import javax.lang.model.element.TypeElement;
import javax.lang.model.element.VariableElement;
import javax.lang.model.type.TypeMirror;
import javax.tools.JavaCompiler;
import javax.tools.StandardJavaFileManager;
import javax.tools.ToolProvider;

/** The rules of LANGUAGE.md that can be read off the class's source; each wrong place is told with its line. */
public final class LanguageTest {
    private static final Check CHECK = new Check();
    private static final Path SOURCE = Path.of("src/main/java/HandleLoans.java");
    private static final int MOST_LINES = 60;
    private static final int MOST_ARGUMENTS = 7;
    private static final int DEEPEST = 8;

    private static final Set<String> PLAIN_TYPES =
        Set.of("int", "long", "short", "byte", "char", "boolean", "void", "java.lang.String");
    private static final Set<Tree.Kind> RULED_OUT = Set.of(Tree.Kind.THROW, Tree.Kind.TRY, Tree.Kind.SYNCHRONIZED,
        Tree.Kind.ASSERT, Tree.Kind.LAMBDA_EXPRESSION, Tree.Kind.MEMBER_REFERENCE);
    // Of rule 4's library, that which a class without lists and without builders of texts can want.
    private static final Pattern LIBRARY = Pattern.compile("java\\.lang\\.("
        + "(Math|Integer|Long)\\.(compare|max|min|abs|signum|bitCount|floorDiv|floorMod)"
        + "|String\\.(length|charAt|isEmpty|equals|indexOf|substring)|System\\.arraycopy|Object\\.<init>)");

    public static void main(String[] args) throws IOException {
        JavaCompiler javac = ToolProvider.getSystemJavaCompiler();
        try (StandardJavaFileManager files = javac.getStandardFileManager(null, null, null)) {
            JavacTask task = (JavacTask) javac.getTask(null, files, null, List.of("-proc:none"), null,
                files.getJavaFileObjects(SOURCE.toFile()));
            CompilationUnitTree unit = task.parse().iterator().next();
            task.analyze();
            Rules rules = new Rules(Trees.instance(task), unit);
            CHECK.holds("no package, no import", unit.getPackageName() == null && unit.getImports().isEmpty());
            CHECK.due("classes of the file's own", unit.getTypeDecls().size(), 1);
            rules.scan(unit, null);
            rules.looksAtCalls();
        }
        CHECK.end();
    }

    private static final class Rules extends TreePathScanner<Void, Void> {
        private final Trees trees;
        private final CompilationUnitTree unit;
        private final LineMap lines;
        private final Map<Element, Set<Element>> calls = new HashMap<>();
        private MethodTree method;
        private Element caller;
        private int classes;

        Rules(Trees trees, CompilationUnitTree unit) {
            this.trees = trees;
            this.unit = unit;
            lines = unit.getLineMap();
        }

        private long lineOf(long position) {
            return lines.getLineNumber(position);
        }

        private void holds(int rule, String what, Tree at, boolean so) {
            CHECK.holds("rule " + rule + ", line " + lineOf(trees.getSourcePositions().getStartPosition(unit, at)) + ": " + what, so);
        }

        private TypeMirror typeOf(Tree tree) {
            return trees.getTypeMirror(new TreePath(getCurrentPath(), tree));
        }

        private Element element(Tree tree) {
            return trees.getElement(new TreePath(getCurrentPath(), tree));
        }

        void looksAtCalls() {
            CHECK.holds("rule 11: at most twelve classes", classes <= 12);
            for (Element first : calls.keySet()) {
                int deep = depth(first, new HashSet<>());
                CHECK.holds("rule 11: calls from " + first + " go " + deep + " deep", deep <= DEEPEST);
            }
        }

        /** How many calls stand open at once, the first and the library's own with them. */
        private int depth(Element at, Set<Element> open) {
            open.add(at);
            int most = 0;
            for (Element next : calls.getOrDefault(at, Set.of())) {
                if (!open.contains(next)) {
                    most = Math.max(most, depth(next, open));
                } else {
                    CHECK.holds("rule 8: " + at + " comes to " + next + " again", false);
                }
            }
            open.remove(at);
            return most + 1;
        }

        @Override
        public Void scan(Tree tree, Void v) {
            if (tree != null && RULED_OUT.contains(tree.getKind())) {
                holds(6, "no " + tree.getKind(), tree, false);
            }
            return super.scan(tree, v);
        }

        @Override
        public Void visitClass(ClassTree tree, Void v) {
            classes++;
            Element e = trees.getElement(getCurrentPath());
            boolean outer = e.getEnclosingElement().getKind() == ElementKind.PACKAGE;
            Set<Modifier> modifiers = e.getModifiers();
            holds(2, "a class inside is static, and stands in the class itself", tree, outer
                || modifiers.contains(Modifier.STATIC) && modifiers.contains(Modifier.PRIVATE) && method == null);
            int fields = 0;
            for (Tree member : tree.getMembers()) {
                holds(5, "no block of a class's own", member, !(member instanceof BlockTree));
                if (member instanceof VariableTree) {
                    fields += looksAtField((VariableTree) member, outer) ? 1 : 0;
                }
            }
            holds(11, "at most twenty fields", tree, fields <= 20);
            return super.visitClass(tree, v);
        }

        /** Whether it is a field of each object. */
        private boolean looksAtField(VariableTree field, boolean outer) {
            Set<Modifier> modifiers = field.getModifiers().getFlags();
            holds(1, "a field is private", field, !outer || modifiers.contains(Modifier.PRIVATE));
            if (!modifiers.contains(Modifier.STATIC)) {
                return true;
            }
            holds(5, "what is static is final, a constant", field, modifiers.contains(Modifier.FINAL)
                && field.getInitializer() != null
                && Set.of("int", "long", "boolean", "char", "String").contains(field.getType().toString()));
            return false;
        }

        @Override
        public Void visitVariable(VariableTree tree, Void v) {
            looksAtType(tree, typeOf(tree.getType()));
            return super.visitVariable(tree, v);
        }

        private void looksAtType(Tree at, TypeMirror type) {
            String name = type.toString();
            String part = name.endsWith("[]") ? name.substring(0, name.length() - 2) : name;
            holds(3, "the type " + name, at, PLAIN_TYPES.contains(part) || part.startsWith("HandleLoans"));
        }

        @Override
        public Void visitMethod(MethodTree tree, Void v) {
            method = tree;
            caller = trees.getElement(getCurrentPath());
            calls.put(caller, new HashSet<>());
            long first = lineOf(trees.getSourcePositions().getStartPosition(unit, tree));
            long last = lineOf(trees.getSourcePositions().getEndPosition(unit, tree));
            holds(11, tree.getName() + " has at most sixty lines", tree, last - first < MOST_LINES);
            holds(11, tree.getName() + " takes at most seven", tree, tree.getParameters().size() <= MOST_ARGUMENTS);
            if (tree.getReturnType() != null) {
                looksAtType(tree, typeOf(tree.getReturnType()));
            }
            super.visitMethod(tree, v);
            method = null;
            return null;
        }

        @Override
        public Void visitMethodInvocation(MethodInvocationTree tree, Void v) {
            looksAtCall(tree, element(tree.getMethodSelect()));
            return super.visitMethodInvocation(tree, v);
        }

        private void looksAtCall(Tree at, Element called) {
            String owner = ((TypeElement) called.getEnclosingElement()).getQualifiedName().toString();
            String name = owner + "." + called.getSimpleName();
            holds(4, name, at, owner.startsWith("HandleLoans") || LIBRARY.matcher(name).matches());
            if (!owner.startsWith("java.lang.Object")) {
                calls.get(caller).add(called);
            }
        }

        @Override
        public Void visitNewClass(NewClassTree tree, Void v) {
            holds(2, "no class without a name", tree, tree.getClassBody() == null);
            holds(12, "objects are made in constructors", tree, method != null && method.getReturnType() == null);
            looksAtCall(tree, trees.getElement(getCurrentPath()));
            return super.visitNewClass(tree, v);
        }

        @Override
        public Void visitNewArray(NewArrayTree tree, Void v) {
            holds(12, "rows are made in constructors", tree, method != null && method.getReturnType() == null);
            return super.visitNewArray(tree, v);
        }

        @Override
        public Void visitBinary(BinaryTree tree, Void v) {
            String left = typeOf(tree.getLeftOperand()).toString();
            String right = typeOf(tree.getRightOperand()).toString();
            boolean ofTexts = left.equals("java.lang.String") || right.equals("java.lang.String");
            holds(6, "no operator between texts", tree, !ofTexts);
            boolean divides = tree.getKind() == Tree.Kind.DIVIDE || tree.getKind() == Tree.Kind.REMAINDER;
            holds(7, "a divisor is a constant", tree, !divides || isConstant(tree.getRightOperand()));
            return super.visitBinary(tree, v);
        }

        private boolean isConstant(ExpressionTree tree) {
            if (tree instanceof LiteralTree) {
                return !tree.toString().equals("0");
            }
            Element e = element(tree);
            Object value = e instanceof VariableElement ? ((VariableElement) e).getConstantValue() : null;
            return value != null && !value.equals(0);
        }

        @Override
        public Void visitCompoundAssignment(CompoundAssignmentTree tree, Void v) {
            holds(7, "no division into a variable", tree,
                tree.getKind() != Tree.Kind.DIVIDE_ASSIGNMENT && tree.getKind() != Tree.Kind.REMAINDER_ASSIGNMENT);
            holds(10, "no text is joined on", tree, !typeOf(tree.getVariable()).toString().equals("java.lang.String"));
            return super.visitCompoundAssignment(tree, v);
        }

        @Override
        public Void visitTypeCast(TypeCastTree tree, Void v) {
            holds(6, "casts are among numbers", tree, typeOf(tree.getType()).getKind().isPrimitive());
            return super.visitTypeCast(tree, v);
        }

        @Override
        public Void visitForLoop(ForLoopTree tree, Void v) {
            holds(9, "a loop has a bound", tree, tree.getCondition() instanceof BinaryTree);
            return super.visitForLoop(tree, v);
        }

        @Override
        public Void visitWhileLoop(WhileLoopTree tree, Void v) {
            holds(9, "a loop has a bound", tree, tree.getCondition().toString().contains("<"));
            return super.visitWhileLoop(tree, v);
        }
    }
}
