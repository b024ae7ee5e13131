import com.sun.source.tree.ArrayTypeTree;
import com.sun.source.tree.AssignmentTree;
import com.sun.source.tree.BinaryTree;
import com.sun.source.tree.BlockTree;
import com.sun.source.tree.ClassTree;
import com.sun.source.tree.CompilationUnitTree;
import com.sun.source.tree.CompoundAssignmentTree;
import com.sun.source.tree.ExpressionStatementTree;
import com.sun.source.tree.ExpressionTree;
import com.sun.source.tree.ForLoopTree;
import com.sun.source.tree.IdentifierTree;
import com.sun.source.tree.LiteralTree;
import com.sun.source.tree.MemberSelectTree;
import com.sun.source.tree.MethodInvocationTree;
import com.sun.source.tree.MethodTree;
import com.sun.source.tree.NewArrayTree;
import com.sun.source.tree.PrimitiveTypeTree;
import com.sun.source.tree.Tree;
import com.sun.source.tree.Tree.Kind;
import com.sun.source.tree.TypeCastTree;
import com.sun.source.tree.UnaryTree;
import com.sun.source.tree.VariableTree;
import com.sun.source.util.JavacTask;
import com.sun.source.util.SourcePositions;
import com.sun.source.util.TreeScanner;
import com.sun.source.util.Trees;
import java.io.File;
import java.io.IOException;
import java.util.EnumSet;
import java.util.HashMap;
import java.util.HashSet;
import java.util.List;
import java.util.Map;
import java.util.Set;
import java.util.TreeMap;
import java.util.TreeSet;
import javax.lang.model.element.Modifier;
import javax.lang.model.type.TypeKind;
import javax.tools.JavaCompiler;
import javax.tools.StandardJavaFileManager;
import javax.tools.ToolProvider;

/**
 * Those rules of LANGUAGE.md that the program's text shows, some of them more strictly than they are: a loop is a for
 * that counts up to a name or number which its body leaves alone, and a divisor is a constant. It must run in the
 * project's folder.
 */
public final class LanguageTest {
    private static final Set<Kind> NEVER = EnumSet.of(
        Kind.NEW_CLASS, Kind.NULL_LITERAL, Kind.STRING_LITERAL, Kind.FLOAT_LITERAL, Kind.DOUBLE_LITERAL,
        Kind.THROW, Kind.TRY, Kind.SYNCHRONIZED, Kind.ASSERT, Kind.INSTANCE_OF, Kind.LAMBDA_EXPRESSION,
        Kind.MEMBER_REFERENCE, Kind.INTERFACE, Kind.ENUM, Kind.RECORD, Kind.ANNOTATION_TYPE, Kind.ANNOTATION,
        Kind.PARAMETERIZED_TYPE, Kind.ENHANCED_FOR_LOOP, Kind.WHILE_LOOP, Kind.DO_WHILE_LOOP);
    private static final Set<Kind> DIVISIONS = EnumSet.of(
        Kind.DIVIDE, Kind.REMAINDER, Kind.DIVIDE_ASSIGNMENT, Kind.REMAINDER_ASSIGNMENT);
    private static final Set<TypeKind> NUMBERS = EnumSet.of(
        TypeKind.INT, TypeKind.LONG, TypeKind.SHORT, TypeKind.BYTE, TypeKind.CHAR, TypeKind.BOOLEAN);

    private static final Check CHECK = new Check();
    private static final Set<String> METHODS = new TreeSet<>();
    private static final Set<String> ARRAY_FIELDS = new TreeSet<>();
    private static final Set<String> CONSTANTS = new HashSet<>();
    private static final Map<String, Tree> INITIALISERS = new HashMap<>();
    private static final Map<String, Set<String>> CALLS = new TreeMap<>();

    private static CompilationUnitTree unit;
    private static SourcePositions positions;

    public static void main(String[] args) throws IOException {
        parse(new File("src/main/java/ProgressTracker.java"));
        CHECK.due("package", unit.getPackageName() == null, true);
        CHECK.due("imports", unit.getImports().size(), 0);
        CHECK.due("types of the file", unit.getTypeDecls().size(), 1);
        ClassTree type = (ClassTree) unit.getTypeDecls().get(0);
        CHECK.due("kind of the type", type.getKind(), Kind.CLASS);
        CHECK.due("modifiers of the class", type.getModifiers().getFlags(),
            EnumSet.of(Modifier.PUBLIC, Modifier.FINAL));
        gatherNames(type);
        members(type);
        new Rules().scan(type, null);
        calls();
        CHECK.end();
    }

    private static void parse(File file) throws IOException {
        JavaCompiler compiler = ToolProvider.getSystemJavaCompiler();
        try (StandardJavaFileManager files = compiler.getStandardFileManager(null, null, null)) {
            JavacTask task = (JavacTask) compiler.getTask(null, files, null, null, null,
                files.getJavaFileObjects(file));
            unit = task.parse().iterator().next();
            positions = Trees.instance(task).getSourcePositions();
        }
    }

    private static void broken(int rule, String what, Tree at) {
        long line = unit.getLineMap().getLineNumber(positions.getStartPosition(unit, at));
        CHECK.due("rule " + rule + ", line " + line + ", " + what, false, true);
    }

    private static boolean isConstant(VariableTree field) {
        return field.getModifiers().getFlags().contains(Modifier.STATIC);
    }

    /** A literal, with or without a minus, or the name of a constant. */
    private static boolean isNumber(Tree tree) {
        return tree instanceof LiteralTree
            || tree instanceof UnaryTree minus && minus.getKind() == Kind.UNARY_MINUS && isNumber(minus.getExpression())
            || tree instanceof IdentifierTree name && CONSTANTS.contains(name.getName().toString());
    }

    private static boolean isAboveZero(Tree tree) {
        return isNumber(tree) && valueOf(tree) > 0;
    }

    private static long valueOf(Tree number) {
        if (number instanceof LiteralTree literal) {
            return literal.getValue() instanceof Number value ? value.longValue() : 0;
        }
        if (number instanceof IdentifierTree name) {
            return valueOf(INITIALISERS.get(name.getName().toString()));
        }
        return -valueOf(((UnaryTree) number).getExpression());
    }

    private static void gatherNames(ClassTree type) {
        for (Tree member : type.getMembers()) {
            if (member instanceof MethodTree method) {
                String name = method.getName().toString();
                // A second method of one name would also be one with two meanings here.
                CHECK.due("methods named " + name + " are one", METHODS.add(name), true);
            } else if (member instanceof VariableTree field && isConstant(field)) {
                CONSTANTS.add(field.getName().toString());
                INITIALISERS.put(field.getName().toString(), field.getInitializer());
            } else if (member instanceof VariableTree field && field.getType() instanceof ArrayTypeTree) {
                ARRAY_FIELDS.add(field.getName().toString());
            }
        }
    }

    private static void members(ClassTree type) {
        int fields = 0;
        for (Tree member : type.getMembers()) {
            if (member instanceof VariableTree field) {
                fields += isConstant(field) ? 0 : 1;
                field(field);
            } else if (member instanceof MethodTree method) {
                method(method);
            } else {
                broken(1, "a member that is neither a field nor a method", member);
            }
        }
        CHECK.due("rule 10, at most 40 fields", fields <= 40, true);
    }

    private static void field(VariableTree field) {
        Set<Modifier> flags = field.getModifiers().getFlags();
        if (isConstant(field)) {
            boolean whole = field.getType() instanceof PrimitiveTypeTree kind
                && (kind.getPrimitiveTypeKind() == TypeKind.INT || kind.getPrimitiveTypeKind() == TypeKind.LONG);
            if (!whole || !flags.contains(Modifier.FINAL) || !isNumber(field.getInitializer())) {
                broken(5, "a static field that is no constant of int or long", field);
            }
        } else if (!flags.contains(Modifier.PRIVATE)) {
            broken(1, "a field that is not private", field);
        }
        if (field.getType() instanceof ArrayTypeTree && !(field.getInitializer() instanceof NewArrayTree)) {
            broken(4, "an array field that its initialiser does not make", field);
        }
    }

    private static void method(MethodTree method) {
        Tree answer = method.getReturnType();
        if (answer != null && !(answer instanceof PrimitiveTypeTree)) {
            broken(4, "a method that answers no number", method);
        }
        if (method.getParameters().size() > 7) {
            broken(10, "more than seven parameters", method);
        }
        long first = unit.getLineMap().getLineNumber(positions.getStartPosition(unit, method));
        long last = unit.getLineMap().getLineNumber(positions.getEndPosition(unit, method));
        if (last - first + 1 > 60) {
            broken(10, "a method of more than sixty lines", method);
        }
    }

    /** No method leads back to itself, and no chain of calls is longer than six. */
    private static void calls() {
        for (String name : METHODS) {
            Set<String> at = Set.of(name);
            int depth = 0;
            while (!at.isEmpty() && depth <= METHODS.size()) {
                Set<String> next = new TreeSet<>();
                at.forEach(caller -> next.addAll(CALLS.getOrDefault(caller, Set.of())));
                at = next;
                depth++;
            }
            CHECK.due("rules 8 and 10, calls from " + name + " go at most six deep", depth <= 6, true);
        }
    }

    private static final class Rules extends TreeScanner<Void, Void> {
        private MethodTree inside = null;
        private boolean inArguments = false;

        @Override
        public Void scan(Tree tree, Void none) {
            if (tree != null && NEVER.contains(tree.getKind())) {
                broken(0, "a forbidden " + tree.getKind(), tree);
            }
            return super.scan(tree, none);
        }

        @Override
        public Void visitMethod(MethodTree method, Void none) {
            inside = method;
            super.visitMethod(method, none);
            inside = null;
            return null;
        }

        @Override
        public Void visitBlock(BlockTree block, Void none) {
            if (inside == null) {
                broken(5, "an initialiser", block);
            }
            return super.visitBlock(block, none);
        }

        @Override
        public Void visitVariable(VariableTree variable, Void none) {
            Tree type = variable.getType();
            Tree element = type instanceof ArrayTypeTree array ? array.getType() : type;
            boolean number = element instanceof PrimitiveTypeTree kind && NUMBERS.contains(kind.getPrimitiveTypeKind());
            if (!number) {
                broken(2, "a variable of another type: " + variable.getName(), variable);
            }
            return super.visitVariable(variable, none);
        }

        @Override
        public Void visitNewArray(NewArrayTree array, Void none) {
            List<? extends ExpressionTree> lengths = array.getDimensions();
            boolean one = lengths.size() == 1 && array.getInitializers() == null;
            if (inside != null || !one || !isAboveZero(lengths.get(0))) {
                broken(4, "an array made in a method, or without a constant length", array);
            }
            return super.visitNewArray(array, none);
        }

        @Override
        public Void visitAssignment(AssignmentTree set, Void none) {
            if (set.getVariable() instanceof IdentifierTree name && ARRAY_FIELDS.contains(name.getName().toString())) {
                broken(4, "an array field that is set", set);
            }
            return super.visitAssignment(set, none);
        }

        @Override
        public Void visitMemberSelect(MemberSelectTree select, Void none) {
            boolean known = select.getIdentifier().contentEquals("length")
                || select.getExpression().toString().equals("this");
            if (!known) {
                broken(3, "a member of something else: " + select, select);
            }
            return super.visitMemberSelect(select, none);
        }

        @Override
        public Void visitMethodInvocation(MethodInvocationTree call, Void none) {
            String name = call.getMethodSelect().toString();
            boolean implicit = name.equals("super") && call.getArguments().isEmpty();
            if (!METHODS.contains(name) && !implicit) {
                broken(3, "a call of something else: " + name, call);
            }
            if (inArguments) {
                broken(10, "a call inside the arguments of another", call);
            }
            if (inside != null) {
                CALLS.computeIfAbsent(inside.getName().toString(), caller -> new TreeSet<>()).add(name);
            }
            boolean before = inArguments;
            inArguments = true;
            scan(call.getArguments(), none);
            inArguments = before;
            return null;
        }

        @Override
        public Void visitTypeCast(TypeCastTree cast, Void none) {
            if (!(cast.getType() instanceof PrimitiveTypeTree)) {
                broken(6, "a cast of a reference", cast);
            }
            return super.visitTypeCast(cast, none);
        }

        @Override
        public Void visitForLoop(ForLoopTree loop, Void none) {
            if (!endsVisibly(loop)) {
                broken(8, "a loop whose end cannot be seen", loop);
            }
            return super.visitForLoop(loop, none);
        }

        @Override
        public Void visitBinary(BinaryTree binary, Void none) {
            if (DIVISIONS.contains(binary.getKind()) && !isAboveZero(binary.getRightOperand())) {
                broken(7, "a divisor that may be 0", binary);
            }
            return super.visitBinary(binary, none);
        }

        @Override
        public Void visitCompoundAssignment(CompoundAssignmentTree set, Void none) {
            if (DIVISIONS.contains(set.getKind()) && !isAboveZero(set.getExpression())) {
                broken(7, "a divisor that may be 0", set);
            }
            return super.visitCompoundAssignment(set, none);
        }
    }

    /** "for (int i = ...; i < bound; i++)", or with "<=", where the body sets neither i nor the bound. */
    private static boolean endsVisibly(ForLoopTree loop) {
        boolean oneOfEach = loop.getInitializer().size() == 1 && loop.getUpdate().size() == 1;
        if (!oneOfEach || !(loop.getInitializer().get(0) instanceof VariableTree counter)
            || !(loop.getCondition() instanceof BinaryTree condition)) {
            return false;
        }
        String name = counter.getName().toString();
        boolean compares = condition.getKind() == Kind.LESS_THAN || condition.getKind() == Kind.LESS_THAN_EQUAL;
        ExpressionTree right = condition.getRightOperand();
        boolean boundIsPlain = right instanceof IdentifierTree || isNumber(right);
        Names set = new Names();
        set.scan(loop.getStatement(), null);
        boolean leftAlone = !set.names.contains(name) && !set.names.contains(right.toString());
        return compares && condition.getLeftOperand().toString().equals(name) && boundIsPlain
            && isIncrement(loop.getUpdate().get(0), name) && leftAlone;
    }

    private static boolean isIncrement(ExpressionStatementTree update, String name) {
        return update.getExpression() instanceof UnaryTree step && step.getKind() == Kind.POSTFIX_INCREMENT
            && step.getExpression().toString().equals(name);
    }

    /** The names that a piece of the program sets. */
    private static final class Names extends TreeScanner<Void, Void> {
        private final Set<String> names = new HashSet<>();

        @Override
        public Void visitAssignment(AssignmentTree set, Void none) {
            names.add(set.getVariable().toString());
            return super.visitAssignment(set, none);
        }

        @Override
        public Void visitCompoundAssignment(CompoundAssignmentTree set, Void none) {
            names.add(set.getVariable().toString());
            return super.visitCompoundAssignment(set, none);
        }

        @Override
        public Void visitUnary(UnaryTree unary, Void none) {
            names.add(unary.getExpression().toString());
            return super.visitUnary(unary, none);
        }
    }
}
