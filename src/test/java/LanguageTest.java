import com.sun.source.tree.ArrayAccessTree;
import com.sun.source.tree.ArrayTypeTree;
import com.sun.source.tree.AssertTree;
import com.sun.source.tree.BinaryTree;
import com.sun.source.tree.BlockTree;
import com.sun.source.tree.ClassTree;
import com.sun.source.tree.CompilationUnitTree;
import com.sun.source.tree.CompoundAssignmentTree;
import com.sun.source.tree.DoWhileLoopTree;
import com.sun.source.tree.ExpressionTree;
import com.sun.source.tree.ForLoopTree;
import com.sun.source.tree.IdentifierTree;
import com.sun.source.tree.InstanceOfTree;
import com.sun.source.tree.LambdaExpressionTree;
import com.sun.source.tree.MemberReferenceTree;
import com.sun.source.tree.MemberSelectTree;
import com.sun.source.tree.MethodInvocationTree;
import com.sun.source.tree.MethodTree;
import com.sun.source.tree.NewArrayTree;
import com.sun.source.tree.NewClassTree;
import com.sun.source.tree.PrimitiveTypeTree;
import com.sun.source.tree.SynchronizedTree;
import com.sun.source.tree.ThrowTree;
import com.sun.source.tree.Tree;
import com.sun.source.tree.TryTree;
import com.sun.source.tree.TypeCastTree;
import com.sun.source.tree.VariableTree;
import com.sun.source.tree.WhileLoopTree;
import com.sun.source.util.JavacTask;
import com.sun.source.util.TreeScanner;
import java.lang.reflect.Field;
import java.lang.reflect.Method;
import java.lang.reflect.Modifier;
import java.nio.file.Path;
import java.util.ArrayList;
import java.util.HashMap;
import java.util.HashSet;
import java.util.List;
import java.util.Map;
import java.util.Set;
import java.util.TreeSet;
import javax.tools.JavaCompiler;
import javax.tools.StandardJavaFileManager;
import javax.tools.ToolProvider;

/** What ../shared/LANGUAGE.md asks of the source, as far as it can be read off by machine. */
public final class LanguageTest {
    static final Path SOURCE = Path.of("src/main/java/HomingNets.java");
    static final Set<String> FACE = Set.of("write(1)", "wipe(0)", "fault(0)", "lay(0)", "value(1)", "hit(2)", "code(0)", "turn(1)",
        "wired(2)", "may(1)", "becomes(1)", "move(1)", "tokens(0)", "legal(0)", "mate(1)", "undo(0)", "run(3)", "next(1)",
        "loop(2)", "storm(4)", "state(2)", "all(1)", "within(2)", "count(1)");
    static final Set<String> LIBRARY = Set.of("bitCount", "max", "min", "fill", "charAt", "length");
    // Where a row is read or divided by something, the index or the divisor is looked at in the same method.
    static final Set<String> READ_ROWS = Set.of("at", "put", "valueAt", "isLinked");
    static final Set<String> DIVIDE = Set.of("valueAt", "drawn", "struck");
    static final Set<String> TYPES = Set.of("int", "long", "boolean", "int[]", "String", "Text", "Net", "Survey", "Past");
    static int wrong = 0;

    public static void main(String[] args) throws Exception {
        lookAtFace();
        lookAtSource();
        System.out.println(wrong == 0 ? "the language is kept" : wrong + " rules are broken");
        System.exit(wrong == 0 ? 0 : 1);
    }

    static void rule(int number, String what, boolean kept) {
        if (!kept) {
            wrong++;
            System.out.println("rule " + number + ": " + what);
        }
    }

    static void lookAtFace() {
        Class<?> face = HomingNets.class;
        Set<String> seen = new TreeSet<>();
        Set<String> publicNames = new HashSet<>();
        rule(1, "public and final", Modifier.isPublic(face.getModifiers()) && Modifier.isFinal(face.getModifiers()));
        for (Method m : face.getDeclaredMethods()) {
            if (Modifier.isPublic(m.getModifiers())) {
                seen.add(m.getName() + "(" + m.getParameterCount() + ")");
                publicNames.add(m.getName());
                rule(1, m + " answers no int", m.getReturnType() == int.class);
            } else {
                rule(1, m + " is not private", Modifier.isPrivate(m.getModifiers()));
            }
        }
        rule(1, "the methods are " + seen, seen.equals(FACE));
        for (Method m : face.getDeclaredMethods()) {
            rule(1, m + " bears a public name", Modifier.isPublic(m.getModifiers()) || !publicNames.contains(m.getName()));
        }
        for (Field f : face.getDeclaredFields()) {
            int mods = f.getModifiers();
            boolean told = Set.of("BAD", "NO", "FULL", "NONE", "EVER").contains(f.getName());
            rule(1, f + " is not private", told ? Modifier.isPublic(mods) : Modifier.isPrivate(mods));
            lookAtConstant(f);
        }
        rule(1, "one public constructor", face.getDeclaredConstructors().length == 1 && face.getConstructors().length == 1);
        rule(11, "classes", face.getDeclaredClasses().length < 12);
        for (Class<?> c : face.getDeclaredClasses()) {
            lookAtClass(c, publicNames);
        }
    }

    static void lookAtClass(Class<?> c, Set<String> publicNames) {
        rule(2, c + " is not static", Modifier.isStatic(c.getModifiers()));
        rule(1, c + " is public", !Modifier.isPublic(c.getModifiers()) && !Modifier.isProtected(c.getModifiers()));
        int fields = 0;
        for (Field f : c.getDeclaredFields()) {
            boolean fixed = Modifier.isStatic(f.getModifiers());
            fields += fixed ? 0 : 1;
            lookAtConstant(f);
        }
        rule(11, c + " has too many fields", fields <= 20);
        for (Method m : c.getDeclaredMethods()) {
            rule(1, m + " bears a public name", !publicNames.contains(m.getName()));
        }
    }

    static void lookAtConstant(Field f) {
        if (Modifier.isStatic(f.getModifiers())) {
            rule(5, f + " is not final", Modifier.isFinal(f.getModifiers()));
            rule(5, f + " is no constant", f.getType() == int.class || f.getType() == String.class);
        }
    }

    static void lookAtSource() throws Exception {
        JavaCompiler compiler = ToolProvider.getSystemJavaCompiler();
        try (StandardJavaFileManager files = compiler.getStandardFileManager(null, null, null)) {
            JavacTask task = (JavacTask) compiler.getTask(null, files, null, null, null, files.getJavaFileObjects(SOURCE));
            CompilationUnitTree unit = task.parse().iterator().next();
            Reader reader = new Reader(unit);
            reader.scan(unit, null);
            rule(1, "a package line", unit.getPackageName() == null);
            unit.getImports().forEach(i -> rule(4, i + "", i.toString().trim().equals("import java.util.Arrays;")));
            for (String method : reader.calls.keySet()) {
                int deep = reader.depth(method, new ArrayList<>());
                rule(11, method + " goes " + deep + " deep", deep <= 8);
            }
        }
    }

    /** Methods are known by name alone: where two classes share one, their calls count for both. */
    static final class Reader extends TreeScanner<Void, Void> {
        final Map<String, Set<String>> calls = new HashMap<>();
        final CompilationUnitTree unit;
        String method = "";

        Reader(CompilationUnitTree unit) {
            this.unit = unit;
        }

        int depth(String name, List<String> open) {
            rule(8, name + " calls itself by " + open, !open.contains(name));
            if (open.contains(name)) {
                return 0;
            }
            List<String> deeper = new ArrayList<>(open);
            deeper.add(name);
            int most = 0;
            for (String called : calls.getOrDefault(name, Set.of())) {
                rule(4, called + " is not in the library", calls.containsKey(called) || LIBRARY.contains(called));
                if (calls.containsKey(called)) {
                    most = Math.max(most, depth(called, deeper));
                }
            }
            return most + 1;
        }

        @Override
        public Void visitMethod(MethodTree tree, Void none) {
            String before = method;
            method = tree.getName().toString();
            calls.computeIfAbsent(method, name -> new HashSet<>());
            rule(11, method + " is long", tree.toString().lines().count() <= 60);
            rule(11, method + " takes too much", tree.getParameters().size() <= 7);
            String answers = String.valueOf(tree.getReturnType());
            rule(3, method + " answers " + answers, tree.getReturnType() == null || answers.equals("void") || TYPES.contains(answers));
            rule(6, method + " throws", tree.getThrows().isEmpty());
            super.visitMethod(tree, none);
            method = before;
            return null;
        }

        @Override
        public Void visitMethodInvocation(MethodInvocationTree tree, Void none) {
            String name = "";
            if (tree.getMethodSelect() instanceof MemberSelectTree select) {
                name = select.getIdentifier().toString();
            } else if (tree.getMethodSelect() instanceof IdentifierTree identifier) {
                name = identifier.getName().toString();
            }
            if (!name.equals("super")) {
                calls.computeIfAbsent(method, m -> new HashSet<>()).add(name);
            }
            return super.visitMethodInvocation(tree, none);
        }

        @Override
        public Void visitClass(ClassTree tree, Void none) {
            rule(2, tree.getSimpleName() + " stands in a method", method.isEmpty());
            return super.visitClass(tree, none);
        }

        @Override
        public Void visitVariable(VariableTree tree, Void none) {
            String type = String.valueOf(tree.getType());
            rule(3, "type " + type, TYPES.contains(type));
            return super.visitVariable(tree, none);
        }

        @Override
        public Void visitArrayType(ArrayTypeTree tree, Void none) {
            rule(3, "rows of " + tree.getType(), tree.getType().toString().equals("int"));
            return super.visitArrayType(tree, none);
        }

        /** A number written out, or a name in capitals. */
        boolean isFixed(ExpressionTree tree) {
            return tree.getKind() == Tree.Kind.INT_LITERAL ? !tree.toString().equals("0") : tree.toString().matches("[A-Z_]+");
        }

        @Override
        public Void visitArrayAccess(ArrayAccessTree tree, Void none) {
            rule(7, method + " reads a row: " + tree, READ_ROWS.contains(method));
            return super.visitArrayAccess(tree, none);
        }

        @Override
        public Void visitBinary(BinaryTree tree, Void none) {
            boolean divides = tree.getKind() == Tree.Kind.DIVIDE || tree.getKind() == Tree.Kind.REMAINDER;
            rule(7, method + " divides: " + tree, !divides || isFixed(tree.getRightOperand()) || DIVIDE.contains(method));
            boolean text = tree.getLeftOperand().getKind() == Tree.Kind.STRING_LITERAL || tree.getRightOperand().getKind() == Tree.Kind.STRING_LITERAL;
            rule(10, method + " joins texts: " + tree, !text);
            return super.visitBinary(tree, none);
        }

        @Override
        public Void visitCompoundAssignment(CompoundAssignmentTree tree, Void none) {
            boolean divides = tree.getKind() == Tree.Kind.DIVIDE_ASSIGNMENT || tree.getKind() == Tree.Kind.REMAINDER_ASSIGNMENT;
            rule(7, method + " divides: " + tree, !divides || isFixed(tree.getExpression()));
            return super.visitCompoundAssignment(tree, none);
        }

        @Override
        public Void visitTypeCast(TypeCastTree tree, Void none) {
            rule(6, method + " casts: " + tree, tree.getType() instanceof PrimitiveTypeTree);
            return super.visitTypeCast(tree, none);
        }

        @Override
        public Void visitInstanceOf(InstanceOfTree tree, Void none) {
            rule(6, method + ": " + tree, false);
            return null;
        }

        @Override
        public Void visitForLoop(ForLoopTree tree, Void none) {
            rule(9, method + " has a loop without an end: " + tree, tree.getCondition() != null && !tree.getUpdate().isEmpty());
            return super.visitForLoop(tree, none);
        }

        @Override
        public Void visitWhileLoop(WhileLoopTree tree, Void none) {
            rule(9, method + " has a loop that only counts by its body", false);
            return null;
        }

        @Override
        public Void visitDoWhileLoop(DoWhileLoopTree tree, Void none) {
            rule(9, method + " has a loop that only counts by its body", false);
            return null;
        }

        @Override
        public Void visitBlock(BlockTree tree, Void none) {
            rule(5, "a static block", !tree.isStatic());
            return super.visitBlock(tree, none);
        }

        @Override
        public Void visitNewClass(NewClassTree tree, Void none) {
            rule(12, method + " makes " + tree, method.isEmpty() || method.equals("<init>"));
            rule(2, "a class without a name", tree.getClassBody() == null);
            return super.visitNewClass(tree, none);
        }

        @Override
        public Void visitNewArray(NewArrayTree tree, Void none) {
            rule(12, method + " makes " + tree, method.isEmpty() || method.equals("<init>"));
            return super.visitNewArray(tree, none);
        }

        @Override
        public Void visitLambdaExpression(LambdaExpressionTree tree, Void none) {
            rule(2, "a lambda", false);
            return null;
        }

        @Override
        public Void visitMemberReference(MemberReferenceTree tree, Void none) {
            rule(2, "a method reference", false);
            return null;
        }

        @Override
        public Void visitThrow(ThrowTree tree, Void none) {
            rule(6, "throw", false);
            return null;
        }

        @Override
        public Void visitTry(TryTree tree, Void none) {
            rule(6, "try", false);
            return null;
        }

        @Override
        public Void visitSynchronized(SynchronizedTree tree, Void none) {
            rule(6, "synchronized", false);
            return null;
        }

        @Override
        public Void visitAssert(AssertTree tree, Void none) {
            rule(6, "assert", false);
            return null;
        }
    }
}
