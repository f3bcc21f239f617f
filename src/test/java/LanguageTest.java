import com.sun.source.tree.AnnotationTree;
import com.sun.source.tree.ArrayTypeTree;
import com.sun.source.tree.AssertTree;
import com.sun.source.tree.AssignmentTree;
import com.sun.source.tree.BinaryTree;
import com.sun.source.tree.BlockTree;
import com.sun.source.tree.ClassTree;
import com.sun.source.tree.CompilationUnitTree;
import com.sun.source.tree.CompoundAssignmentTree;
import com.sun.source.tree.DoWhileLoopTree;
import com.sun.source.tree.EnhancedForLoopTree;
import com.sun.source.tree.ExpressionTree;
import com.sun.source.tree.ForLoopTree;
import com.sun.source.tree.IdentifierTree;
import com.sun.source.tree.InstanceOfTree;
import com.sun.source.tree.LambdaExpressionTree;
import com.sun.source.tree.LiteralTree;
import com.sun.source.tree.MemberReferenceTree;
import com.sun.source.tree.MemberSelectTree;
import com.sun.source.tree.MethodInvocationTree;
import com.sun.source.tree.MethodTree;
import com.sun.source.tree.NewArrayTree;
import com.sun.source.tree.NewClassTree;
import com.sun.source.tree.ParenthesizedTree;
import com.sun.source.tree.PrimitiveTypeTree;
import com.sun.source.tree.SynchronizedTree;
import com.sun.source.tree.ThrowTree;
import com.sun.source.tree.Tree;
import com.sun.source.tree.TryTree;
import com.sun.source.tree.TypeCastTree;
import com.sun.source.tree.UnaryTree;
import com.sun.source.tree.VariableTree;
import com.sun.source.tree.WhileLoopTree;
import com.sun.source.util.JavacTask;
import com.sun.source.util.SourcePositions;
import com.sun.source.util.TreePath;
import com.sun.source.util.TreePathScanner;
import com.sun.source.util.TreeScanner;
import com.sun.source.util.Trees;
import java.net.URI;
import java.nio.file.Files;
import java.nio.file.Path;
import java.util.ArrayList;
import java.util.HashMap;
import java.util.HashSet;
import java.util.List;
import java.util.Map;
import java.util.Set;
import java.util.TreeSet;
import javax.lang.model.element.Modifier;
import javax.lang.model.type.TypeKind;
import javax.tools.DiagnosticCollector;
import javax.tools.JavaFileObject;
import javax.tools.SimpleJavaFileObject;
import javax.tools.ToolProvider;

/**
 * The class keeps to those rules of LANGUAGE.md that no call shows: the source is
 * read with javac's own parser, and each rule is looked for in its tree. Then
 * small samples that break one rule each are read in the same way, so that a
 * check that sees nothing is seen itself. Where a rule can't be decided from
 * the tree, the check is narrower than the rule: it takes only loops that count
 * up to a constant, divisors that are constants, and a constructor that calls
 * nothing. That no index is out of its array is in AnyArgumentsTest.
 * Takes the path of the class's source as its argument.
 */
public final class LanguageTest {
    private static final int MOST_PARAMETERS = 7;
    private static final int MOST_LINES = 60;
    private static final int MOST_DEPTH = 6;
    private static final int MOST_FIELDS = 40;

    /** A rule's number, and what stands in a class that breaks it. */
    private record Sample(int rule, String members) { }

    private static final String LOOP = "for (int i = 0; i < 8; i++) { ";

    private static final Sample[] SAMPLES = {
        new Sample(1, "private static class Inner { }"),
        new Sample(1, "private enum Kind { ONE }"),
        new Sample(1, "private record Pair(int a, int b) { }"),
        new Sample(1, "private interface Face { }"),
        new Sample(1, "private void m() { class Local { } }"),
        new Sample(1, "int open;"),
        new Sample(1, "void open() { }"),
        new Sample(1, "protected int open;"),
        new Sample(1, "public void m() { } private void m(int a) { }"),
        new Sample(2, "private float f;"),
        new Sample(2, "private double m() { return 1; }"),
        new Sample(2, "private int m() { return (int) 1.5; }"),
        new Sample(2, "private int m() { return (int) 1.5f; }"),
        new Sample(2, "private void m(double d) { }"),
        new Sample(2, "private int[][] grid;"),
        new Sample(2, "private String s;"),
        new Sample(2, "private void m() { var v = 1; }"),
        new Sample(2, "private void m(int... all) { }"),
        new Sample(2, "private <T> void m() { }"),
        new Sample(2, "private boolean m() { return \"\" == \"\"; }"),
        new Sample(3, "private int m() { return Math.abs(1); }"),
        new Sample(3, "private int m() { return Integer.MAX_VALUE; }"),
        new Sample(3, "private int m() { return hashCode(); }"),
        new Sample(3, "private long m() { return System.nanoTime(); }"),
        new Sample(3, "private native int m();"),
        new Sample(3, "@Deprecated private int m() { return 1; }"),
        new Sample(4, "private int m() { int[] a = new int[3]; return a[0]; }"),
        new Sample(4, "private final int[] a = {1, 2};"),
        new Sample(4, "private final int[] a = new int[] {1, 2};"),
        new Sample(4, "private final int[] a = new int[0];"),
        new Sample(4, "private int n; private final int[] a = new int[n];"),
        new Sample(4, "private static final int N = 3; private final int[] a = new int[N - 3];"),
        new Sample(4, "private final int[] a = new int[2]; private int[] m() { return a; }"),
        new Sample(4, "private int[] a = new int[2]; private int[] b = new int[2]; private void m() { a = b; }"),
        new Sample(4, "private int[] a = new int[2]; private void m() { this.a = a; }"),
        new Sample(4, "private int[] a = new int[2]; private boolean m(int[] b) { return a == b; }"),
        new Sample(4, "private boolean m(int[] b) { return b != null; }"),
        new Sample(4, "private void m(int[] a, int[] b) { " + LOOP + "a = b; } }"),
        new Sample(4, "private Object m() { return new Object(); }"),
        new Sample(4, "public Sample() { m(); } private void m() { }"),
        new Sample(5, "private static int count;"),
        new Sample(5, "private static final int[] TABLE = new int[3];"),
        new Sample(5, "private static final boolean YES = true;"),
        new Sample(5, "private static final int N = m(); private static int m() { return 1; }"),
        new Sample(5, "private static final int N; static { N = 1; }"),
        new Sample(6, "private void m() { throw new RuntimeException(); }"),
        new Sample(6, "private void m() { try { m(); } finally { } }"),
        new Sample(6, "private void m() { synchronized (this) { } }"),
        new Sample(6, "private synchronized void m() { }"),
        new Sample(6, "private void m(int a) { assert a > 0; }"),
        new Sample(6, "private boolean m() { return this instanceof Sample; }"),
        new Sample(6, "private void m() { Runnable r = () -> { }; }"),
        new Sample(6, "private void m() { Runnable r = this::m; }"),
        new Sample(6, "private void m() { Sample s = (Sample) this; }"),
        new Sample(6, "private void m() throws Exception { }"),
        new Sample(7, "private int m(int a) { return 1 / a; }"),
        new Sample(7, "private int m(int a) { return 1 % a; }"),
        new Sample(7, "private int m(int a) { a /= a; return a; }"),
        new Sample(7, "private int m(int a) { a %= 0; return a; }"),
        new Sample(7, "private static final int ZERO = 0; private int m(int a) { return a / ZERO; }"),
        new Sample(8, "private void m() { m(); }"),
        new Sample(8, "private void m() { n(); } private void n() { o(); } private void o() { m(); }"),
        new Sample(8, "private void m() { while (true) { } }"),
        new Sample(8, "private void m() { do { } while (true); }"),
        new Sample(8, "private void m() { for (;;) { } }"),
        new Sample(8, "private void m() { for (int i = 0; i < 8;) { } }"),
        new Sample(8, "private void m() { for (int i = 0; i < 8; i--) { } }"),
        new Sample(8, "private void m(int n) { for (int i = 0; i < n; i++) { n++; } }"),
        new Sample(8, "private void m() { for (int i = 0; i <= 2147483647; i++) { } }"),
        new Sample(8, "private void m() { for (long i = 0; i < 8; i++) { } }"),
        new Sample(8, "private void m() { " + LOOP + "i = 0; } }"),
        new Sample(8, "private void m() { " + LOOP + "i -= 1; } }"),
        new Sample(8, "private void m() { " + LOOP + "i--; } }"),
        new Sample(8, "private void m() { " + LOOP + "--i; } }"),
        new Sample(10, "private void m(int a, int b, int c, int d, int e, int f, int g, int h) { }"),
        new Sample(10, "private int m(int a) { return a; } private int n() { return m(m(1)); }"),
        new Sample(10, "private int m(int a) { return a; } private int o() { return 1; }"
                + " private int n() { return m(1 + (2 * o())); }"),
        new Sample(10, "private void m() {\n" + "\n".repeat(MOST_LINES) + "}"),
        new Sample(10, "private void a() { b(); } private void b() { c(); } private void c() { d(); }"
                + " private void d() { e(); } private void e() { f(); } private void f() { g(); }"
                + " private void g() { }"),
        new Sample(10, manyFields(MOST_FIELDS + 1)),
    };

    /** What the rules allow just so far; a check that finds a fault here is too narrow to be right. */
    private static final String[] ALLOWED = {
        "private void m(int a, int b, int c, int d, int e, int f, int g) { }",
        "private void m() {\n" + "\n".repeat(MOST_LINES - 2) + "}",
        "private void a() { b(); b(); } private void b() { c(); } private void c() { d(); f(); }"
                + " private void d() { e(); } private void e() { f(); } private void f() { }",
        manyFields(MOST_FIELDS),
        "private static final int N = 2 * (3 + 1); private static final long ALL = ~0L; private int[] a = new int[N];",
        "private static final int N = 4; private int m(int a) { return a / N % 8; }",
        "private final byte[] a = new byte[1]; private boolean m(int[] b) { return b[0] == a[0] && b.length != 1; }",
        "private static final int N = 4; private int m(char c) { " + LOOP
                + "for (int j = i; j < N; j++) { if (j == i) { continue; } } } return (int) (short) c; }",
        "private int n; public Sample() { n = 1; this.n = 2; } private int m() { return n > 0 ? this.n : -n; }",
    };

    private static String manyFields(int count) {
        StringBuilder text = new StringBuilder("private static final int N = 1;");
        for (int number = 0; number < count; number++) {
            text.append(" private int field").append(number).append(";");
        }
        return text.toString();
    }

    private static int wrong = 0;

    public static void main(String[] args) throws Exception {
        for (String fault : faultsIn("GuardedCommands", Files.readString(Path.of(args[0])))) {
            say("GuardedCommands.java, " + fault);
        }
        for (Sample sample : SAMPLES) {
            List<String> faults = faultsIn("Sample", sampleOf(sample.members));
            if (faults.stream().noneMatch(fault -> fault.startsWith("rule " + sample.rule + ":"))) {
                say("rule " + sample.rule + " is broken and not seen: " + sample.members);
            }
        }
        for (String allowed : ALLOWED) {
            for (String fault : faultsIn("Sample", sampleOf(allowed))) {
                say("allowed, but " + fault + ": " + allowed);
            }
        }
        for (String file : new String[] {"package p; ", "import java.util.List; ", "class Other { } "}) {
            if (faultsIn("Sample", file + sampleOf("")).isEmpty()) {
                say("not seen: " + file);
            }
        }
        System.out.println(wrong == 0 ? "the rules hold, and all " + SAMPLES.length + " broken samples are seen"
                : wrong + " things are not as due");
        if (wrong != 0) {
            System.exit(1);
        }
    }

    private static void say(String what) {
        wrong++;
        System.out.println(what);
    }

    private static String sampleOf(String members) {
        return "public final class Sample { " + members + " }";
    }

    private static List<String> faultsIn(String name, String source) throws Exception {
        JavaFileObject file = new SimpleJavaFileObject(URI.create("string:///" + name + ".java"),
                JavaFileObject.Kind.SOURCE) {
            @Override
            public CharSequence getCharContent(boolean ignoreErrors) {
                return source;
            }
        };
        DiagnosticCollector<JavaFileObject> told = new DiagnosticCollector<>();
        JavacTask task = (JavacTask) ToolProvider.getSystemJavaCompiler()
                .getTask(null, null, told, List.of("--release", "17"), null, List.of(file));
        CompilationUnitTree unit = task.parse().iterator().next();
        if (!told.getDiagnostics().isEmpty()) {
            say("javac can't read " + source + ": " + told.getDiagnostics());
        }
        Reader reader = new Reader(unit, Trees.instance(task).getSourcePositions());
        new Names(reader).scan(unit, null);
        reader.scan(unit, null);
        reader.lookAtCalls();
        return reader.faults;
    }

    /** Learns the names before the reader needs them: a method may use what stands below it. */
    private static final class Names extends TreePathScanner<Void, Void> {
        private final Reader reader;

        Names(Reader reader) {
            this.reader = reader;
        }

        @Override
        public Void visitVariable(VariableTree variable, Void none) {
            String name = variable.getName().toString();
            if (variable.getType() instanceof ArrayTypeTree) {
                reader.arrays.add(name);
            }
            if (variable.getModifiers().getFlags().contains(Modifier.STATIC)) {
                reader.constants.put(name, variable.getInitializer());
            }
            return super.visitVariable(variable, none);
        }

        @Override
        public Void visitMethod(MethodTree method, Void none) {
            String name = method.getName().toString();
            reader.calls.putIfAbsent(name, new TreeSet<>());
            if (method.getModifiers().getFlags().contains(Modifier.PUBLIC)) {
                reader.openMethods.add(name);
            }
            return super.visitMethod(method, none);
        }
    }

    private static final class Reader extends TreePathScanner<Void, Void> {
        private static final Set<TypeKind> WHOLE = Set.of(TypeKind.INT, TypeKind.LONG, TypeKind.SHORT,
                TypeKind.BYTE, TypeKind.CHAR, TypeKind.BOOLEAN);
        private static final Set<Tree.Kind> WHOLE_LITERALS = Set.of(Tree.Kind.INT_LITERAL,
                Tree.Kind.LONG_LITERAL, Tree.Kind.CHAR_LITERAL, Tree.Kind.BOOLEAN_LITERAL);

        private final CompilationUnitTree unit;
        private final SourcePositions positions;
        private final List<String> faults = new ArrayList<>();
        private final Set<String> arrays = new HashSet<>();
        private final Set<String> openMethods = new HashSet<>();
        private final Map<String, Tree> constants = new HashMap<>();
        private final Map<String, Set<String>> calls = new HashMap<>();
        private int fields = 0;

        Reader(CompilationUnitTree unit, SourcePositions positions) {
            this.unit = unit;
            this.positions = positions;
        }

        private void require(int rule, boolean holds, Tree tree) {
            if (!holds) {
                faults.add("rule " + rule + ": line " + lineOf(positions.getStartPosition(unit, tree)));
            }
        }

        private long lineOf(long position) {
            return unit.getLineMap().getLineNumber(position);
        }

        private Tree parent() {
            return getCurrentPath().getParentPath().getLeaf();
        }

        private String methodAround() {
            for (TreePath path = getCurrentPath(); path != null; path = path.getParentPath()) {
                if (path.getLeaf() instanceof MethodTree method) {
                    return method.getName().toString();
                }
            }
            return "";
        }

        private static boolean isWhole(Tree type) {
            return type instanceof PrimitiveTypeTree plain && WHOLE.contains(plain.getPrimitiveTypeKind());
        }

        private static boolean isWholeOrArray(Tree type) {
            return isWhole(type) || type instanceof ArrayTypeTree array && isWhole(array.getType());
        }

        private boolean isArrayName(Tree tree) {
            if (tree instanceof MemberSelectTree select && isThis(select.getExpression())) {
                return arrays.contains(select.getIdentifier().toString());
            }
            return tree instanceof IdentifierTree name && arrays.contains(name.getName().toString());
        }

        private static boolean isThis(Tree tree) {
            return tree instanceof IdentifierTree name && name.getName().contentEquals("this");
        }

        /** What literals, constants and reckoning with them come to; null for all else. */
        private Long valueOf(Tree tree) {
            if (tree instanceof LiteralTree literal && literal.getValue() instanceof Number number) {
                return number.longValue();
            }
            if (tree instanceof IdentifierTree name) {
                return valueOf(constants.get(name.getName().toString()));
            }
            if (tree instanceof ParenthesizedTree inner) {
                return valueOf(inner.getExpression());
            }
            if (tree instanceof UnaryTree unary) {
                return reckoned(unary.getKind(), 0L, valueOf(unary.getExpression()));
            }
            if (tree instanceof BinaryTree binary) {
                return reckoned(binary.getKind(), valueOf(binary.getLeftOperand()), valueOf(binary.getRightOperand()));
            }
            return null;
        }

        private static Long reckoned(Tree.Kind kind, Long left, Long right) {
            if (left == null || right == null) {
                return null;
            }
            switch (kind) {
                case PLUS: return left + right;
                case MINUS: return left - right;
                case MULTIPLY: return left * right;
                case LEFT_SHIFT: return left << right;
                case UNARY_MINUS: return -right;
                case BITWISE_COMPLEMENT: return ~right;
                default: return null;
            }
        }

        private boolean isConstant(Tree tree) {
            return valueOf(tree) != null;
        }

        private boolean isPositive(Tree tree) {
            Long value = valueOf(tree);
            return value != null && value > 0;
        }

        @Override
        public Void visitCompilationUnit(CompilationUnitTree file, Void none) {
            require(1, file.getPackage() == null, file);
            require(3, file.getImports().isEmpty(), file);
            require(1, file.getTypeDecls().size() == 1, file);
            return super.visitCompilationUnit(file, none);
        }

        @Override
        public Void visitClass(ClassTree type, Void none) {
            Set<Modifier> flags = type.getModifiers().getFlags();
            require(1, parent() instanceof CompilationUnitTree && type.getKind() == Tree.Kind.CLASS, type);
            require(1, flags.contains(Modifier.PUBLIC) && flags.contains(Modifier.FINAL), type);
            require(1, type.getExtendsClause() == null && type.getImplementsClause().isEmpty(), type);
            require(1, type.getTypeParameters().isEmpty(), type);
            for (Tree member : type.getMembers()) {
                require(5, !(member instanceof BlockTree), member);
            }
            return super.visitClass(type, none);
        }

        @Override
        public Void visitVariable(VariableTree variable, Void none) {
            require(2, isWholeOrArray(variable.getType()), variable);
            require(2, !variable.toString().contains("..."), variable);
            if (parent() instanceof ClassTree) {
                lookAtField(variable);
            }
            return super.visitVariable(variable, none);
        }

        private void lookAtField(VariableTree field) {
            Set<Modifier> flags = field.getModifiers().getFlags();
            require(1, flags.contains(Modifier.PRIVATE), field);
            if (flags.contains(Modifier.STATIC)) {
                boolean number = field.getType() instanceof PrimitiveTypeTree plain
                        && Set.of(TypeKind.INT, TypeKind.LONG).contains(plain.getPrimitiveTypeKind());
                require(5, number && flags.contains(Modifier.FINAL), field);
                require(5, isConstant(field.getInitializer()), field);
            } else {
                fields++;
                require(10, fields <= MOST_FIELDS, field);
            }
        }

        @Override
        public Void visitMethod(MethodTree method, Void none) {
            Set<Modifier> flags = method.getModifiers().getFlags();
            String name = method.getName().toString();
            require(1, flags.contains(Modifier.PUBLIC) || flags.contains(Modifier.PRIVATE), method);
            require(1, flags.contains(Modifier.PUBLIC) || !openMethods.contains(name), method);
            require(2, method.getTypeParameters().isEmpty(), method);
            require(3, method.getBody() != null, method);
            require(6, !flags.contains(Modifier.SYNCHRONIZED) && method.getThrows().isEmpty(), method);
            require(10, method.getParameters().size() <= MOST_PARAMETERS, method);
            lookAtAnswer(method);
            long first = lineOf(positions.getStartPosition(unit, method));
            long last = lineOf(positions.getEndPosition(unit, method));
            require(10, last - first + 1 <= MOST_LINES, method);
            return super.visitMethod(method, none);
        }

        private void lookAtAnswer(MethodTree method) {
            Tree answer = method.getReturnType();
            boolean nothing = answer == null
                    || answer instanceof PrimitiveTypeTree plain && plain.getPrimitiveTypeKind() == TypeKind.VOID;
            require(4, !(answer instanceof ArrayTypeTree), method);
            require(2, nothing || isWholeOrArray(answer), method);
        }

        @Override
        public Void visitMethodInvocation(MethodInvocationTree call, Void none) {
            String around = methodAround();
            // javac puts the call of the parent's constructor into each constructor by itself.
            boolean own = call.getMethodSelect() instanceof IdentifierTree name
                    && calls.containsKey(name.getName().toString());
            boolean given = call.toString().equals("super()");
            require(3, own || given, call);
            if (own) {
                require(4, !around.equals("<init>"), call);
                calls.getOrDefault(around, new HashSet<>()).add(call.getMethodSelect().toString());
            }
            for (ExpressionTree argument : call.getArguments()) {
                require(10, !hasCall(argument), argument);
            }
            return super.visitMethodInvocation(call, none);
        }

        private static boolean hasCall(Tree tree) {
            boolean[] found = {false};
            new TreeScanner<Void, Void>() {
                @Override
                public Void visitMethodInvocation(MethodInvocationTree call, Void none) {
                    found[0] = true;
                    return null;
                }
            }.scan(tree, null);
            return found[0];
        }

        @Override
        public Void visitMemberSelect(MemberSelectTree select, Void none) {
            boolean length = select.getIdentifier().contentEquals("length") && isArrayName(select.getExpression());
            require(3, length || isThis(select.getExpression()), select);
            return super.visitMemberSelect(select, none);
        }

        @Override
        public Void visitAnnotation(AnnotationTree annotation, Void none) {
            require(3, false, annotation);
            return null;
        }

        @Override
        public Void visitNewClass(NewClassTree made, Void none) {
            require(4, false, made);
            return super.visitNewClass(made, none);
        }

        @Override
        public Void visitNewArray(NewArrayTree made, Void none) {
            TreePath holder = getCurrentPath().getParentPath();
            boolean inField = holder.getLeaf() instanceof VariableTree
                    && holder.getParentPath().getLeaf() instanceof ClassTree;
            require(4, inField && made.getInitializers() == null && made.getDimensions().size() == 1, made);
            for (ExpressionTree length : made.getDimensions()) {
                require(4, isPositive(length), made);
            }
            return super.visitNewArray(made, none);
        }

        @Override
        public Void visitAssignment(AssignmentTree assignment, Void none) {
            require(4, !isArrayName(assignment.getVariable()), assignment);
            return super.visitAssignment(assignment, none);
        }

        @Override
        public Void visitBinary(BinaryTree binary, Void none) {
            Tree.Kind kind = binary.getKind();
            if (kind == Tree.Kind.EQUAL_TO || kind == Tree.Kind.NOT_EQUAL_TO) {
                require(4, !isArrayName(binary.getLeftOperand()) && !isArrayName(binary.getRightOperand()), binary);
            }
            if (kind == Tree.Kind.DIVIDE || kind == Tree.Kind.REMAINDER) {
                require(7, isPositive(binary.getRightOperand()), binary);
            }
            return super.visitBinary(binary, none);
        }

        @Override
        public Void visitCompoundAssignment(CompoundAssignmentTree change, Void none) {
            Tree.Kind kind = change.getKind();
            if (kind == Tree.Kind.DIVIDE_ASSIGNMENT || kind == Tree.Kind.REMAINDER_ASSIGNMENT) {
                require(7, isPositive(change.getExpression()), change);
            }
            return super.visitCompoundAssignment(change, none);
        }

        @Override
        public Void visitLiteral(LiteralTree literal, Void none) {
            boolean nothing = literal.getKind() == Tree.Kind.NULL_LITERAL;
            require(4, !nothing, literal);
            require(2, nothing || WHOLE_LITERALS.contains(literal.getKind()), literal);
            return super.visitLiteral(literal, none);
        }

        @Override
        public Void visitThrow(ThrowTree tree, Void none) {
            require(6, false, tree);
            return super.visitThrow(tree, none);
        }

        @Override
        public Void visitTry(TryTree tree, Void none) {
            require(6, false, tree);
            return super.visitTry(tree, none);
        }

        @Override
        public Void visitSynchronized(SynchronizedTree tree, Void none) {
            require(6, false, tree);
            return super.visitSynchronized(tree, none);
        }

        @Override
        public Void visitAssert(AssertTree tree, Void none) {
            require(6, false, tree);
            return super.visitAssert(tree, none);
        }

        @Override
        public Void visitInstanceOf(InstanceOfTree tree, Void none) {
            require(6, false, tree);
            return super.visitInstanceOf(tree, none);
        }

        @Override
        public Void visitLambdaExpression(LambdaExpressionTree tree, Void none) {
            require(6, false, tree);
            return super.visitLambdaExpression(tree, none);
        }

        @Override
        public Void visitMemberReference(MemberReferenceTree tree, Void none) {
            require(6, false, tree);
            return super.visitMemberReference(tree, none);
        }

        @Override
        public Void visitTypeCast(TypeCastTree cast, Void none) {
            require(6, isWhole(cast.getType()), cast);
            return super.visitTypeCast(cast, none);
        }

        @Override
        public Void visitWhileLoop(WhileLoopTree tree, Void none) {
            require(8, false, tree);
            return super.visitWhileLoop(tree, none);
        }

        @Override
        public Void visitDoWhileLoop(DoWhileLoopTree tree, Void none) {
            require(8, false, tree);
            return super.visitDoWhileLoop(tree, none);
        }

        @Override
        public Void visitEnhancedForLoop(EnhancedForLoopTree tree, Void none) {
            require(8, false, tree);
            return super.visitEnhancedForLoop(tree, none);
        }

        @Override
        public Void visitForLoop(ForLoopTree loop, Void none) {
            require(8, isCounted(loop), loop);
            return super.visitForLoop(loop, none);
        }

        /** for (int i = ..; i less than a constant; i++), where nothing else changes i. */
        private boolean isCounted(ForLoopTree loop) {
            if (loop.getInitializer().size() != 1 || loop.getUpdate().size() != 1 || loop.getCondition() == null
                    || !(loop.getInitializer().get(0) instanceof VariableTree counter)) {
                return false;
            }
            String name = counter.getName().toString();
            boolean whole = counter.getType().toString().equals("int");
            boolean up = loop.getUpdate().get(0).getExpression() instanceof UnaryTree step
                    && step.getKind() == Tree.Kind.POSTFIX_INCREMENT
                    && step.getExpression().toString().equals(name);
            boolean below = loop.getCondition() instanceof BinaryTree bound
                    && bound.getKind() == Tree.Kind.LESS_THAN
                    && bound.getLeftOperand().toString().equals(name)
                    && isConstant(bound.getRightOperand());
            return whole && up && below && !changes(loop.getStatement(), name);
        }

        private static boolean changes(Tree body, String name) {
            boolean[] found = {false};
            new TreeScanner<Void, Void>() {
                @Override
                public Void visitAssignment(AssignmentTree tree, Void none) {
                    found[0] |= tree.getVariable().toString().equals(name);
                    return super.visitAssignment(tree, none);
                }

                @Override
                public Void visitCompoundAssignment(CompoundAssignmentTree tree, Void none) {
                    found[0] |= tree.getVariable().toString().equals(name);
                    return super.visitCompoundAssignment(tree, none);
                }

                @Override
                public Void visitUnary(UnaryTree tree, Void none) {
                    String sign = tree.getKind().toString();
                    boolean steps = sign.endsWith("INCREMENT") || sign.endsWith("DECREMENT");
                    found[0] |= steps && tree.getExpression().toString().equals(name);
                    return super.visitUnary(tree, none);
                }
            }.scan(body, null);
            return found[0];
        }

        /**
         * The depth of a method is at least one more than that of each method it
         * calls; with calls in a circle the depths would rise without end.
         */
        private void lookAtCalls() {
            Map<String, Integer> depths = new HashMap<>();
            for (int round = 0; round <= calls.size(); round++) {
                for (String method : calls.keySet()) {
                    int depth = 1;
                    for (String called : calls.get(method)) {
                        depth = Math.max(depth, 1 + depths.getOrDefault(called, 1));
                    }
                    depths.put(method, depth);
                }
            }
            for (String method : calls.keySet()) {
                if (depths.get(method) > calls.size()) {
                    faults.add("rule 8: " + method + " leads into calls in a circle");
                } else if (depths.get(method) > MOST_DEPTH) {
                    faults.add("rule 10: " + method + " calls " + depths.get(method) + " deep");
                }
            }
        }
    }
}
