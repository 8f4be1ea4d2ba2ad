import com.sun.source.tree.ArrayAccessTree;
import com.sun.source.tree.ArrayTypeTree;
import com.sun.source.tree.AssignmentTree;
import com.sun.source.tree.ClassTree;
import com.sun.source.tree.CompilationUnitTree;
import com.sun.source.tree.CompoundAssignmentTree;
import com.sun.source.tree.ExpressionTree;
import com.sun.source.tree.ForLoopTree;
import com.sun.source.tree.IdentifierTree;
import com.sun.source.tree.MemberSelectTree;
import com.sun.source.tree.MethodInvocationTree;
import com.sun.source.tree.MethodTree;
import com.sun.source.tree.NewArrayTree;
import com.sun.source.tree.PrimitiveTypeTree;
import com.sun.source.tree.Tree;
import com.sun.source.tree.Tree.Kind;
import com.sun.source.tree.UnaryTree;
import com.sun.source.tree.VariableTree;
import com.sun.source.util.JavacTask;
import com.sun.source.util.SourcePositions;
import com.sun.source.util.TreePath;
import com.sun.source.util.TreePathScanner;
import com.sun.source.util.TreeScanner;
import com.sun.source.util.Trees;
import java.io.IOException;
import java.nio.file.Path;
import java.util.EnumSet;
import java.util.HashMap;
import java.util.HashSet;
import java.util.Map;
import java.util.Set;
import java.util.TreeSet;
import javax.lang.model.element.Modifier;
import javax.lang.model.type.TypeKind;
import javax.tools.JavaCompiler;
import javax.tools.StandardJavaFileManager;
import javax.tools.ToolProvider;

/**
 * The rules of LANGUAGE.md, looked for in the source as the compiler reads it. Where a rule
 * leaves more than the class needs, this asks for what the class needs: no division, no loop
 * but a counting for, no use of an array but of its elements.
 */
public final class LanguageTest extends TreePathScanner<Void, Void> {
    private static final Checks checks = new Checks();

    private static final Set<Kind> RULED_OUT = EnumSet.of(
            Kind.STRING_LITERAL, Kind.FLOAT_LITERAL, Kind.DOUBLE_LITERAL, Kind.NULL_LITERAL, Kind.NEW_CLASS,
            Kind.THROW, Kind.TRY, Kind.CATCH, Kind.SYNCHRONIZED, Kind.ASSERT, Kind.INSTANCE_OF,
            Kind.LAMBDA_EXPRESSION, Kind.MEMBER_REFERENCE, Kind.INTERFACE, Kind.ENUM, Kind.RECORD,
            Kind.ANNOTATION_TYPE, Kind.PARAMETERIZED_TYPE, Kind.WHILE_LOOP, Kind.DO_WHILE_LOOP,
            Kind.ENHANCED_FOR_LOOP, Kind.DIVIDE, Kind.REMAINDER, Kind.DIVIDE_ASSIGNMENT, Kind.REMAINDER_ASSIGNMENT);

    private final Set<String> constants = new HashSet<>();
    private final Set<String> arrays = new HashSet<>();
    private final Set<String> variables = new HashSet<>();
    private final Map<String, Set<String>> callsOf = new HashMap<>();

    public static void main(String[] args) throws IOException {
        JavaCompiler compiler = ToolProvider.getSystemJavaCompiler();
        try (StandardJavaFileManager files = compiler.getStandardFileManager(null, null, null)) {
            var source = files.getJavaFileObjects(Path.of("src/main/java/Relooper.java"));
            JavacTask task = (JavacTask) compiler.getTask(null, files, null, null, null, source);
            CompilationUnitTree unit = task.parse().iterator().next();
            new LanguageTest().look(unit, Trees.instance(task).getSourcePositions());
        }
        checks.end();
    }

    private void look(CompilationUnitTree unit, SourcePositions positions) {
        checks.due("no package line", unit.getPackageName() == null, true);
        checks.due("imports", unit.getImports().size(), 0);
        checks.due("types in the file", unit.getTypeDecls().size(), 1);
        ClassTree type = (ClassTree) unit.getTypeDecls().get(0);
        int fields = 0;
        for (Tree member : type.getMembers()) {
            if (member instanceof VariableTree field) {
                fields += lookAtField(field);
            } else if (member instanceof MethodTree method) {
                long first = unit.getLineMap().getLineNumber(positions.getStartPosition(unit, method));
                long last = unit.getLineMap().getLineNumber(positions.getEndPosition(unit, method));
                lookAtMethod(method, last - first + 1);
            } else {
                checks.due("a member that is a field or a method", member.getKind().toString(), "");
            }
        }
        checks.due("at most forty fields, with " + fields, fields <= 40, true);
        scan(unit, null);
        for (String name : callsOf.keySet()) {
            int depth = depthOf(name, new HashSet<>());
            checks.due("calls from " + name + " go at most six deep, at " + depth, depth <= 6, true);
        }
    }

    /** Answers 1 for a field, 0 for a constant. */
    private int lookAtField(VariableTree field) {
        String name = field.getName().toString();
        variables.add(name);
        Set<Modifier> modifiers = field.getModifiers().getFlags();
        boolean isFinal = modifiers.contains(Modifier.FINAL);
        if (field.getType().getKind() == Kind.ARRAY_TYPE) {
            arrays.add(name);
            boolean own = isFinal && !modifiers.contains(Modifier.STATIC);
            checks.due(name + " is a final array of its own object", own, true);
            return 1;
        }
        if (!modifiers.contains(Modifier.STATIC)) {
            return 1;
        }
        constants.add(name);
        boolean intOrLong = Set.of("int", "long").contains(field.getType().toString());
        checks.due(name + " is a constant of int or long", isFinal && intOrLong, true);
        boolean known = field.getInitializer() != null && callsIn(field).isEmpty();
        checks.due(name + " is known to the compiler", known, true);
        return 0;
    }

    private void lookAtMethod(MethodTree method, long lines) {
        String name = method.getName().toString();
        checks.due(name + " has a name of its own", callsOf.put(name, callsIn(method)) == null, true);
        checks.due(name + " takes at most seven", method.getParameters().size() <= 7, true);
        checks.due(name + " has at most sixty lines", lines <= 60, true);
        boolean answersNumber = method.getReturnType() == null || method.getReturnType() instanceof PrimitiveTypeTree;
        checks.due(name + " answers no array", answersNumber, true);
    }

    private static Set<String> callsIn(Tree tree) {
        Set<String> calls = new TreeSet<>();
        new TreeScanner<Void, Void>() {
            @Override
            public Void visitMethodInvocation(MethodInvocationTree call, Void none) {
                calls.add(call.getMethodSelect().toString());
                return super.visitMethodInvocation(call, none);
            }
        }.scan(tree, null);
        return calls;
    }

    /** How many methods stand above each other at most, this one counted. */
    private int depthOf(String name, Set<String> above) {
        checks.due(name + " is not come to from itself", above.add(name), true);
        int deepest = 0;
        for (String called : callsOf.getOrDefault(name, Set.of())) {
            if (!above.contains(called)) {
                deepest = Math.max(deepest, depthOf(called, above));
            } else {
                checks.due(name + " does not call what called it", called, "");
            }
        }
        above.remove(name);
        return deepest + 1;
    }

    @Override
    public Void scan(Tree tree, Void none) {
        if (tree != null) {
            checks.due("no " + tree.getKind() + ": " + tree, RULED_OUT.contains(tree.getKind()), false);
        }
        return super.scan(tree, none);
    }

    @Override
    public Void visitVariable(VariableTree variable, Void none) {
        variables.add(variable.getName().toString());
        Tree element = variable.getType() instanceof ArrayTypeTree array ? array.getType() : variable.getType();
        checks.due(variable + " is of numbers", element instanceof PrimitiveTypeTree, true);
        return super.visitVariable(variable, none);
    }

    @Override
    public Void visitPrimitiveType(PrimitiveTypeTree type, Void none) {
        TypeKind kind = type.getPrimitiveTypeKind();
        checks.due(type + " is a whole number", kind == TypeKind.FLOAT || kind == TypeKind.DOUBLE, false);
        return null;
    }

    @Override
    public Void visitMemberSelect(MemberSelectTree select, Void none) {
        checks.due("nothing of another class", select.toString(), "");
        return null;
    }

    @Override
    public Void visitIdentifier(IdentifierTree identifier, Void none) {
        String name = identifier.getName().toString();
        checks.due(name + " is of the class itself", variables.contains(name) || callsOf.containsKey(name), true);
        if (arrays.contains(name)) {
            boolean element = getCurrentPath().getParentPath().getLeaf() instanceof ArrayAccessTree access
                    && access.getExpression() == identifier;
            checks.due(name + " is used by its elements alone", element, true);
        }
        return null;
    }

    @Override
    public Void visitNewArray(NewArrayTree made, Void none) {
        TreePath parent = getCurrentPath().getParentPath();
        boolean inVariable = parent.getLeaf() instanceof VariableTree;
        boolean inField = inVariable && parent.getParentPath().getLeaf() instanceof ClassTree;
        checks.due(made + " is made in a field's initialiser", inField, true);
        boolean oneLength = made.getDimensions().size() == 1 && made.getInitializers() == null;
        checks.due(made + " has one length", oneLength, true);
        for (ExpressionTree length : made.getDimensions()) {
            boolean known = length.getKind() == Kind.INT_LITERAL || constants.contains(length.toString());
            checks.due(made + " has a length that is a constant", known, true);
        }
        return super.visitNewArray(made, none);
    }

    @Override
    public Void visitMethodInvocation(MethodInvocationTree call, Void none) {
        boolean own = callsOf.containsKey(call.getMethodSelect().toString());
        checks.due(call + " is a call of the class's own", own, true);
        for (ExpressionTree argument : call.getArguments()) {
            checks.due(call + " has no call among its arguments", callsIn(argument).isEmpty(), true);
        }
        return super.visitMethodInvocation(call, none);
    }

    /** The counter is compared with a bound, stepped in the head, and not set in the body. */
    @Override
    public Void visitForLoop(ForLoopTree loop, Void none) {
        boolean counts = false;
        if (loop.getUpdate().size() == 1 && loop.getUpdate().get(0).getExpression() instanceof UnaryTree step) {
            String counter = step.getExpression().toString();
            String condition = String.valueOf(loop.getCondition());
            boolean up = step.getKind() == Kind.POSTFIX_INCREMENT && condition.startsWith(counter + " < ");
            boolean down = step.getKind() == Kind.POSTFIX_DECREMENT && condition.startsWith(counter + " >= 0");
            counts = (up || down) && !condition.contains("||") && !setIn(loop.getStatement()).contains(counter);
        }
        checks.due("for " + loop.getCondition() + " counts to a bound", counts, true);
        return super.visitForLoop(loop, none);
    }

    private static Set<String> setIn(Tree tree) {
        Set<String> set = new TreeSet<>();
        new TreeScanner<Void, Void>() {
            @Override
            public Void visitAssignment(AssignmentTree assignment, Void none) {
                set.add(assignment.getVariable().toString());
                return super.visitAssignment(assignment, none);
            }

            @Override
            public Void visitCompoundAssignment(CompoundAssignmentTree assignment, Void none) {
                set.add(assignment.getVariable().toString());
                return super.visitCompoundAssignment(assignment, none);
            }

            @Override
            public Void visitUnary(UnaryTree unary, Void none) {
                set.add(unary.getExpression().toString());
                return super.visitUnary(unary, none);
            }
        }.scan(tree, null);
        return set;
    }
}
