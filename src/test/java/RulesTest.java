import com.sun.source.tree.AssignmentTree;
import com.sun.source.tree.BinaryTree;
import com.sun.source.tree.CompilationUnitTree;
import com.sun.source.tree.CompoundAssignmentTree;
import com.sun.source.tree.DoWhileLoopTree;
import com.sun.source.tree.ForLoopTree;
import com.sun.source.tree.LiteralTree;
import com.sun.source.tree.MethodInvocationTree;
import com.sun.source.tree.MethodTree;
import com.sun.source.tree.NewClassTree;
import com.sun.source.tree.ParenthesizedTree;
import com.sun.source.tree.Tree;
import com.sun.source.tree.TypeCastTree;
import com.sun.source.tree.UnaryTree;
import com.sun.source.tree.VariableTree;
import com.sun.source.tree.WhileLoopTree;
import com.sun.source.util.JavacTask;
import com.sun.source.util.TreePath;
import com.sun.source.util.TreePathScanner;
import com.sun.source.util.TreeScanner;
import com.sun.source.util.Trees;
import java.io.IOException;
import java.nio.file.Path;
import java.util.ArrayDeque;
import java.util.Deque;
import java.util.EnumSet;
import java.util.List;
import java.util.Map;
import java.util.Set;
import java.util.TreeMap;
import java.util.TreeSet;
import javax.lang.model.element.Element;
import javax.lang.model.element.Modifier;
import javax.lang.model.type.ArrayType;
import javax.lang.model.type.TypeKind;
import javax.lang.model.type.TypeMirror;
import javax.tools.JavaCompiler;
import javax.tools.StandardJavaFileManager;
import javax.tools.ToolProvider;

/** Those rules of LANGUAGE.md that only the compiler's own tree shows: types, the library, loops, how deep calls go. */
public final class RulesTest {
    private static final int MOST_DEEP = 8;
    // Of what rule 4 lets the program use, this is what it needs.
    private static final Set<String> LIBRARY = Set.of("String.charAt", "String.indexOf", "System.arraycopy",
        "Arrays.fill", "Integer.bitCount", "Long.bitCount", "Math.min", "Math.max", "Math.abs", "Object.<init>");
    private static final Set<Tree.Kind> NEVER = EnumSet.of(Tree.Kind.THROW, Tree.Kind.TRY, Tree.Kind.SYNCHRONIZED,
        Tree.Kind.ASSERT, Tree.Kind.LAMBDA_EXPRESSION, Tree.Kind.MEMBER_REFERENCE, Tree.Kind.INSTANCE_OF,
        Tree.Kind.SWITCH_EXPRESSION, Tree.Kind.YIELD);
    private static final Set<TypeKind> NUMBERS = EnumSet.of(TypeKind.INT, TypeKind.LONG, TypeKind.SHORT,
        TypeKind.BYTE, TypeKind.CHAR);

    private RulesTest() {
    }

    public static void main(String[] args) throws IOException {
        JavaCompiler compiler = ToolProvider.getSystemJavaCompiler();
        try (StandardJavaFileManager files = compiler.getStandardFileManager(null, null, null)) {
            JavacTask task = (JavacTask) compiler.getTask(null, files, null, List.of("-proc:none"), null,
                files.getJavaFileObjects(Path.of("src/main/java/ChessWire.java")));
            CompilationUnitTree program = task.parse().iterator().next();
            task.analyze();
            Reader reader = new Reader(Trees.instance(task));
            reader.scan(program, null);
            reader.callsStayFlat();
        }
        Check.end("RulesTest");
    }

    /** Goes through the whole tree, and keeps who calls whom. */
    private static final class Reader extends TreePathScanner<Void, Void> {
        private final Trees trees;
        private final Map<String, Set<String>> calls = new TreeMap<>();
        private final Set<String> staticOnes = new TreeSet<>();
        private final Deque<String> open = new ArrayDeque<>();

        Reader(Trees trees) {
            this.trees = trees;
        }

        @Override
        public Void scan(Tree tree, Void nothing) {
            if (tree != null) {
                Check.that("rule 6: " + tree.getKind(), !NEVER.contains(tree.getKind()));
            }
            return super.scan(tree, nothing);
        }

        @Override
        public Void visitMethod(MethodTree method, Void nothing) {
            Element element = trees.getElement(getCurrentPath());
            String name = nameOf(element);
            if (element.getModifiers().containsAll(Set.of(Modifier.PRIVATE, Modifier.STATIC))) {
                staticOnes.add(name);
            }
            calls.put(name, new TreeSet<>());
            open.push(name);
            super.visitMethod(method, nothing);
            open.pop();
            return null;
        }

        @Override
        public Void visitMethodInvocation(MethodInvocationTree call, Void nothing) {
            use(trees.getElement(getCurrentPath()));
            return super.visitMethodInvocation(call, nothing);
        }

        @Override
        public Void visitNewClass(NewClassTree made, Void nothing) {
            Check.that("rule 2: no class without a name", made.getClassBody() == null);
            Check.that("rule 12: made by a constructor: " + made, open.peek().endsWith(".<init>"));
            use(trees.getElement(getCurrentPath()));
            return super.visitNewClass(made, nothing);
        }

        private void use(Element called) {
            String name = nameOf(called);
            if (isOwn(called.getEnclosingElement())) {
                calls.get(open.peek()).add(name);
            } else {
                Check.that("rule 4: " + name, LIBRARY.contains(name));
            }
        }

        @Override
        public Void visitVariable(VariableTree variable, Void nothing) {
            Element element = trees.getElement(getCurrentPath());
            TypeMirror type = element.asType();
            Check.that("rule 3: " + variable, mayBe(type));
            boolean field = element.getKind().isField();
            Check.that("rule 1: " + variable, !field || element.getModifiers().contains(Modifier.PRIVATE)
                || element.getModifiers().contains(Modifier.PUBLIC));
            if (element.getModifiers().contains(Modifier.STATIC)) {
                boolean row = type.getKind() == TypeKind.ARRAY;
                Check.that("rule 5: " + variable, element.getModifiers().contains(Modifier.FINAL)
                    && (row ? variable.getInitializer().getKind() == Tree.Kind.NEW_ARRAY
                        : type.getKind().isPrimitive() || type.toString().equals("java.lang.String")));
            }
            return super.visitVariable(variable, nothing);
        }

        private boolean mayBe(TypeMirror type) {
            if (type.getKind() == TypeKind.ARRAY) {
                TypeMirror item = ((ArrayType) type).getComponentType();
                return NUMBERS.contains(item.getKind()) || item.getKind() == TypeKind.DECLARED && isOwn(item);
            }
            return NUMBERS.contains(type.getKind()) || type.getKind() == TypeKind.BOOLEAN || isOwn(type)
                || type.toString().equals("java.lang.String");
        }

        private static boolean isOwn(Object what) {
            return what.toString().startsWith("ChessWire");
        }

        @Override
        public Void visitTypeCast(TypeCastTree cast, Void nothing) {
            TypeMirror to = trees.getTypeMirror(new TreePath(getCurrentPath(), cast.getType()));
            Check.that("rule 6: numbers alone are cast: " + cast, to.getKind().isPrimitive());
            return super.visitTypeCast(cast, nothing);
        }

        @Override
        public Void visitBinary(BinaryTree joined, Void nothing) {
            TypeMirror type = trees.getTypeMirror(getCurrentPath());
            Check.that("rule 10: " + joined, !type.toString().equals("java.lang.String"));
            return super.visitBinary(joined, nothing);
        }

        @Override
        public Void visitForLoop(ForLoopTree loop, Void nothing) {
            Check.that("rule 9: " + loop, loop.getCondition() != null && !loop.getUpdate().isEmpty()
                && !(loop.getCondition() instanceof LiteralTree));
            return super.visitForLoop(loop, nothing);
        }

        @Override
        public Void visitWhileLoop(WhileLoopTree loop, Void nothing) {
            Tree condition = ((ParenthesizedTree) loop.getCondition()).getExpression();
            Check.that("rule 9: " + loop,
                counts(loop.getStatement()) && condition.getKind() == Tree.Kind.CONDITIONAL_AND);
            return super.visitWhileLoop(loop, nothing);
        }

        @Override
        public Void visitDoWhileLoop(DoWhileLoopTree loop, Void nothing) {
            Check.that("rule 9: this program needs no such loop: " + loop, false);
            return super.visitDoWhileLoop(loop, nothing);
        }

        /** Whether something is counted up or down in a loop. */
        private boolean counts(Tree body) {
            return Boolean.TRUE.equals(new TreeScanner<Boolean, Void>() {
                @Override
                public Boolean visitUnary(UnaryTree step, Void nothing) {
                    return step.getKind() == Tree.Kind.POSTFIX_INCREMENT
                        || step.getKind() == Tree.Kind.POSTFIX_DECREMENT;
                }

                @Override
                public Boolean reduce(Boolean one, Boolean other) {
                    return Boolean.TRUE.equals(one) || Boolean.TRUE.equals(other);
                }
            }.scan(body, null));
        }

        @Override
        public Void visitAssignment(AssignmentTree set, Void nothing) {
            constantsStay(set.getVariable());
            return super.visitAssignment(set, nothing);
        }

        @Override
        public Void visitCompoundAssignment(CompoundAssignmentTree set, Void nothing) {
            constantsStay(set.getVariable());
            return super.visitCompoundAssignment(set, nothing);
        }

        private static void constantsStay(Tree variable) {
            Check.that("rule 5: " + variable, !variable.toString().matches("[A-Z_]+\\[.*"));
        }

        void callsStayFlat() {
            Check.that("the whole program was read", calls.size() > 150);
            for (String name : calls.keySet()) {
                Check.that("rule 8: only a private static function calls itself: " + name,
                    !calls.get(name).contains(name) || staticOnes.contains(name));
                int deep = depthOf(name, new ArrayDeque<>());
                Check.that("rule 11: " + name + " goes " + deep + " deep", deep <= MOST_DEEP);
            }
        }

        private int depthOf(String name, Deque<String> above) {
            Check.that("rule 8: " + name + " is called by what it calls", !above.contains(name));
            int below = 0;
            above.push(name);
            for (String called : calls.getOrDefault(name, Set.of())) {
                if (!called.equals(name) && !above.contains(called)) {
                    below = Math.max(below, depthOf(called, above));
                }
            }
            above.pop();
            return below + 1;
        }

        private static String nameOf(Element method) {
            return method.getEnclosingElement().getSimpleName() + "." + method.getSimpleName();
        }
    }
}
