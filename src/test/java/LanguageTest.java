import com.sun.source.tree.ArrayTypeTree;
import com.sun.source.tree.AssignmentTree;
import com.sun.source.tree.BinaryTree;
import com.sun.source.tree.BlockTree;
import com.sun.source.tree.ClassTree;
import com.sun.source.tree.CompilationUnitTree;
import com.sun.source.tree.CompoundAssignmentTree;
import com.sun.source.tree.ExpressionTree;
import com.sun.source.tree.ForLoopTree;
import com.sun.source.tree.IdentifierTree;
import com.sun.source.tree.LiteralTree;
import com.sun.source.tree.MemberSelectTree;
import com.sun.source.tree.MethodInvocationTree;
import com.sun.source.tree.MethodTree;
import com.sun.source.tree.NewArrayTree;
import com.sun.source.tree.PrimitiveTypeTree;
import com.sun.source.tree.Tree;
import com.sun.source.tree.UnaryTree;
import com.sun.source.tree.VariableTree;
import com.sun.source.util.JavacTask;
import com.sun.source.util.SourcePositions;
import com.sun.source.util.TreeScanner;
import com.sun.source.util.Trees;
import java.io.File;
import java.io.IOException;
import java.util.ArrayDeque;
import java.util.Deque;
import java.util.HashMap;
import java.util.HashSet;
import java.util.Map;
import java.util.Set;
import java.util.TreeMap;
import java.util.TreeSet;
import javax.lang.model.element.Modifier;
import javax.lang.model.type.TypeKind;
import javax.tools.JavaCompiler;
import javax.tools.StandardJavaFileManager;
import javax.tools.ToolProvider;

// The rules of LANGUAGE.md that can be read off the source, some of them more
// narrowly than they are written there, as far as the class gets by with less.
// Rule 7 can't be read off: the other tests call with all kinds of arguments.
public final class LanguageTest {
    private static final String SOURCE = "src/main/java/VoteWatch.java";
    private static final Set<TypeKind> NUMBER_TYPES = Set.of(TypeKind.INT, TypeKind.LONG,
        TypeKind.SHORT, TypeKind.BYTE, TypeKind.CHAR, TypeKind.BOOLEAN);
    private static final Map<Tree.Kind, Integer> FORBIDDEN = Map.ofEntries(
        Map.entry(Tree.Kind.CLASS, 1), Map.entry(Tree.Kind.INTERFACE, 1),
        Map.entry(Tree.Kind.ENUM, 1), Map.entry(Tree.Kind.RECORD, 1),
        Map.entry(Tree.Kind.STRING_LITERAL, 2), Map.entry(Tree.Kind.FLOAT_LITERAL, 2),
        Map.entry(Tree.Kind.DOUBLE_LITERAL, 2), Map.entry(Tree.Kind.NULL_LITERAL, 4),
        Map.entry(Tree.Kind.NEW_ARRAY, 4), Map.entry(Tree.Kind.NEW_CLASS, 4),
        Map.entry(Tree.Kind.THROW, 6), Map.entry(Tree.Kind.TRY, 6),
        Map.entry(Tree.Kind.SYNCHRONIZED, 6), Map.entry(Tree.Kind.ASSERT, 6),
        Map.entry(Tree.Kind.INSTANCE_OF, 6), Map.entry(Tree.Kind.LAMBDA_EXPRESSION, 6),
        Map.entry(Tree.Kind.MEMBER_REFERENCE, 6), Map.entry(Tree.Kind.WHILE_LOOP, 8),
        Map.entry(Tree.Kind.DO_WHILE_LOOP, 8), Map.entry(Tree.Kind.ENHANCED_FOR_LOOP, 8));
    private static final Set<Tree.Kind> STEPS = Set.of(
        Tree.Kind.PREFIX_INCREMENT, Tree.Kind.PREFIX_DECREMENT,
        Tree.Kind.POSTFIX_INCREMENT, Tree.Kind.POSTFIX_DECREMENT);
    private static final int MOST_PARAMETERS = 7;
    private static final int MOST_LINES = 60;
    private static final int MOST_DEPTH = 6;
    private static final int MOST_FIELDS = 40;

    private static CompilationUnitTree unit;
    private static SourcePositions positions;
    private static final Map<String, Set<String>> calls = new TreeMap<>();
    private static final Set<String> constants = new HashSet<>();
    private static final Set<String> arrayFields = new HashSet<>();
    private static int fields = 0;
    private static int wrong = 0;

    private static void fault(int rule, Tree where, String what) {
        wrong++;
        System.out.println("rule " + rule + ", line " + line(positions.getStartPosition(unit, where))
            + ": " + what);
    }

    private static long line(long position) {
        return unit.getLineMap().getLineNumber(position);
    }

    public static void main(String[] args) throws IOException {
        JavaCompiler compiler = ToolProvider.getSystemJavaCompiler();
        try (StandardJavaFileManager files = compiler.getStandardFileManager(null, null, null)) {
            JavacTask task = (JavacTask) compiler.getTask(null, files, null, null, null,
                files.getJavaFileObjects(new File(SOURCE)));
            unit = task.parse().iterator().next();
            positions = Trees.instance(task).getSourcePositions();
            checkUnit();
        }
        System.out.println(wrong == 0 ? "the class keeps to the language" : wrong + " rules broken");
        if (wrong != 0) {
            System.exit(1);
        }
    }

    private static void checkUnit() {
        if (unit.getPackageName() != null || !unit.getImports().isEmpty()
            || unit.getTypeDecls().size() != 1) {
            fault(1, unit, "a package, an import or a second type");
        }
        ClassTree type = (ClassTree) unit.getTypeDecls().get(0);
        if (type.getExtendsClause() != null || !type.getImplementsClause().isEmpty()) {
            fault(3, type, "another type is extended or implemented");
        }
        Map<String, MethodTree> methods = new HashMap<>();
        for (Tree member : type.getMembers()) {
            if (member instanceof VariableTree field) {
                checkField(field);
            } else if (member instanceof MethodTree method) {
                if (methods.put(method.getName().toString(), method) != null) {
                    fault(1, method, "a second method of the name " + method.getName());
                }
            } else {
                fault(member instanceof BlockTree ? 5 : 1, member, "neither field nor method");
            }
        }
        if (fields > MOST_FIELDS) {
            fault(10, type, fields + " fields");
        }
        methods.forEach(LanguageTest::checkMethod);
        calls.forEach((name, called) -> {
            if (!methods.keySet().containsAll(called)) {
                fault(3, methods.get(name), name + " calls what the class does not have: " + called);
            }
            checkDepth(name, methods.get(name));
        });
    }

    private static void checkField(VariableTree field) {
        String name = field.getName().toString();
        Set<Modifier> modifiers = field.getModifiers().getFlags();
        checkType(field, field.getType());
        if (modifiers.contains(Modifier.STATIC)) {
            constants.add(name);
            if (!modifiers.contains(Modifier.FINAL) || !isIntOrLong(field.getType())
                || !isConstant(field.getInitializer())) {
                fault(5, field, name + " is no constant of int or long");
            }
            return;
        }
        fields++;
        if (field.getType() instanceof ArrayTypeTree) {
            arrayFields.add(name);
            if (!(field.getInitializer() instanceof NewArrayTree made)
                || made.getInitializers() != null || !isConstant(made.getDimensions().get(0))) {
                fault(4, field, name + " is not made with a constant length where it stands");
            }
        } else if (field.getInitializer() != null && !isConstant(field.getInitializer())) {
            fault(4, field, name + " does not begin with a constant");
        }
    }

    private static boolean isIntOrLong(Tree type) {
        return type instanceof PrimitiveTypeTree number
            && (number.getPrimitiveTypeKind() == TypeKind.INT
            || number.getPrimitiveTypeKind() == TypeKind.LONG);
    }

    // Two deep is enough for what stands in the class: -1 and A * B.
    private static boolean isConstant(ExpressionTree value) {
        if (value instanceof BinaryTree sum) {
            return isPlain(sum.getLeftOperand()) && isPlain(sum.getRightOperand());
        }
        return value instanceof UnaryTree sign ? isPlain(sign.getExpression()) : isPlain(value);
    }

    private static boolean isPlain(ExpressionTree value) {
        return value instanceof LiteralTree
            || value instanceof IdentifierTree name && constants.contains(name.getName().toString());
    }

    private static void checkType(Tree where, Tree type) {
        Tree part = type instanceof ArrayTypeTree array ? array.getType() : type;
        if (!(part instanceof PrimitiveTypeTree number)
            || !NUMBER_TYPES.contains(number.getPrimitiveTypeKind())) {
            fault(2, where, "the type " + type);
        }
    }

    private static void checkMethod(String name, MethodTree method) {
        calls.put(name, new TreeSet<>());
        Tree answer = method.getReturnType();
        if (answer instanceof ArrayTypeTree) {
            fault(4, method, name + " answers an array");
        } else if (answer != null && !answer.toString().equals("void")) {
            checkType(method, answer);
        }
        if (method.getParameters().size() > MOST_PARAMETERS) {
            fault(10, method, name + " has too many parameters");
        }
        if (!method.getThrows().isEmpty()
            || method.getModifiers().getFlags().contains(Modifier.SYNCHRONIZED)) {
            fault(6, method, name + " throws or is synchronized");
        }
        long lines = 1 + line(positions.getEndPosition(unit, method))
            - line(positions.getStartPosition(unit, method));
        if (lines > MOST_LINES) {
            fault(10, method, name + " has " + lines + " lines");
        }
        new BodyScanner().scan(method.getParameters(), name);
        new BodyScanner().scan(method.getBody(), name);
    }

    // Goes down one level a round; a method met twice on its way calls itself.
    private static void checkDepth(String name, MethodTree method) {
        Set<String> level = Set.of(name);
        for (int depth = 1; !level.isEmpty(); depth++) {
            if (depth > MOST_DEPTH) {
                fault(10, method, "calls from " + name + " go more than six deep");
                return;
            }
            Set<String> next = new TreeSet<>();
            level.forEach(caller -> next.addAll(calls.getOrDefault(caller, Set.of())));
            if (next.contains(name)) {
                fault(8, method, name + " is recursive");
                return;
            }
            level = next;
        }
    }

    // What stands inside a method, whose name goes along.
    private static final class BodyScanner extends TreeScanner<Void, String> {
        // The counters and bounds of the loops around the place.
        private final Deque<String> fixed = new ArrayDeque<>();
        private boolean inArguments = false;

        @Override
        public Void scan(Tree tree, String method) {
            if (tree != null && FORBIDDEN.containsKey(tree.getKind())) {
                fault(FORBIDDEN.get(tree.getKind()), tree, tree.getKind() + " in " + method);
                return null;
            }
            return super.scan(tree, method);
        }

        @Override
        public Void visitVariable(VariableTree variable, String method) {
            checkType(variable, variable.getType());
            return scan(variable.getInitializer(), method);
        }

        @Override
        public Void visitMemberSelect(MemberSelectTree select, String method) {
            fault(3, select, "a member of something else: " + select);
            return null;
        }

        @Override
        public Void visitMethodInvocation(MethodInvocationTree call, String method) {
            if (inArguments) {
                fault(10, call, "a call inside the arguments of another: " + call);
            }
            scan(call.getMethodSelect(), method);
            calls.get(method).add(call.getMethodSelect().toString());
            boolean before = inArguments;
            inArguments = true;
            scan(call.getArguments(), method);
            inArguments = before;
            return null;
        }

        @Override
        public Void visitAssignment(AssignmentTree assignment, String method) {
            checkChange(assignment, assignment.getVariable());
            return super.visitAssignment(assignment, method);
        }

        @Override
        public Void visitCompoundAssignment(CompoundAssignmentTree assignment, String method) {
            checkChange(assignment, assignment.getVariable());
            return super.visitCompoundAssignment(assignment, method);
        }

        @Override
        public Void visitUnary(UnaryTree step, String method) {
            if (STEPS.contains(step.getKind())) {
                checkChange(step, step.getExpression());
            }
            return super.visitUnary(step, method);
        }

        private void checkChange(Tree where, Tree changed) {
            if (arrayFields.contains(changed.toString())) {
                fault(4, where, "an array field is assigned to: " + where);
            }
            if (fixed.contains(changed.toString())) {
                fault(8, where, "a loop's counter or bound is changed inside it: " + where);
            }
        }

        @Override
        public Void visitForLoop(ForLoopTree loop, String method) {
            scan(loop.getInitializer(), method);
            scan(loop.getCondition(), method);
            if (!isCounted(loop)) {
                fault(8, loop, "the loop is not for (int i = a; i < bound; i++)");
                return null;
            }
            BinaryTree test = (BinaryTree) loop.getCondition();
            fixed.push(test.getLeftOperand().toString());
            fixed.push(test.getRightOperand().toString());
            scan(loop.getStatement(), method);
            fixed.pop();
            fixed.pop();
            return null;
        }

        private static boolean isCounted(ForLoopTree loop) {
            return loop.getInitializer().size() == 1 && loop.getUpdate().size() == 1
                && loop.getInitializer().get(0) instanceof VariableTree counter
                && loop.getCondition() instanceof BinaryTree test
                && test.getKind() == Tree.Kind.LESS_THAN
                && test.getLeftOperand().toString().equals(counter.getName().toString())
                && test.getRightOperand() instanceof IdentifierTree
                && loop.getUpdate().get(0).getExpression() instanceof UnaryTree step
                && step.getKind() == Tree.Kind.POSTFIX_INCREMENT
                && step.getExpression().toString().equals(counter.getName().toString());
        }
    }
}
