import com.sun.source.tree.AssertTree;
import com.sun.source.tree.AssignmentTree;
import com.sun.source.tree.BinaryTree;
import com.sun.source.tree.BlockTree;
import com.sun.source.tree.ClassTree;
import com.sun.source.tree.CompilationUnitTree;
import com.sun.source.tree.CompoundAssignmentTree;
import com.sun.source.tree.DoWhileLoopTree;
import com.sun.source.tree.EnhancedForLoopTree;
import com.sun.source.tree.ExpressionStatementTree;
import com.sun.source.tree.ExpressionTree;
import com.sun.source.tree.ForLoopTree;
import com.sun.source.tree.IdentifierTree;
import com.sun.source.tree.InstanceOfTree;
import com.sun.source.tree.LambdaExpressionTree;
import com.sun.source.tree.LiteralTree;
import com.sun.source.tree.MemberReferenceTree;
import com.sun.source.tree.MemberSelectTree;
import com.sun.source.tree.MethodInvocationTree;
import com.sun.source.tree.MethodTree;
import com.sun.source.tree.NewArrayTree;
import com.sun.source.tree.NewClassTree;
import com.sun.source.tree.ReturnTree;
import com.sun.source.tree.SynchronizedTree;
import com.sun.source.tree.ThrowTree;
import com.sun.source.tree.Tree;
import com.sun.source.tree.TryTree;
import com.sun.source.tree.TypeCastTree;
import com.sun.source.tree.UnaryTree;
import com.sun.source.tree.VariableTree;
import com.sun.source.tree.WhileLoopTree;
import com.sun.source.util.JavacTask;
import com.sun.source.util.SourcePositions;
import com.sun.source.util.TreeScanner;
import com.sun.source.util.Trees;
import java.io.IOException;
import java.util.HashMap;
import java.util.HashSet;
import java.util.List;
import java.util.Map;
import java.util.Set;
import javax.lang.model.element.Modifier;
import javax.tools.JavaCompiler;
import javax.tools.StandardJavaFileManager;
import javax.tools.ToolProvider;

// The text of the class keeps to LANGUAGE.md, as far as that can be seen from its lines. Where it is
// simpler to look at, the test is narrower than the rule (arrays in fields' initialisers alone, for
// loops alone): a class that leaves the narrow form has to widen the test with care.
public final class AgentGridRules {
    private static final String SOURCE = "src/main/java/AgentGrid.java";
    private static final Set<String> TYPES = Set.of("int", "long", "short", "byte", "char", "boolean");
    private static final Set<String> ARRAYS =
            Set.of("int[]", "long[]", "short[]", "byte[]", "char[]", "boolean[]");
    private static final int MOST_LINES = 60;
    private static final int MOST_DEPTH = 6;

    private static int wrong = 0;

    private static CompilationUnitTree unit;
    private static SourcePositions positions;
    private static final Set<String> constants = new HashSet<>();
    private static final Set<String> fields = new HashSet<>();
    private static final Set<String> arrays = new HashSet<>();
    private static final Map<String, MethodTree> methods = new HashMap<>();
    private static final Map<String, Set<String>> callees = new HashMap<>();

    private static long lineOf(long position) {
        return unit.getLineMap().getLineNumber(position);
    }

    private static void must(boolean holds, int rule, Tree where, String what) {
        if (!holds) {
            wrong++;
            long line = lineOf(positions.getStartPosition(unit, where));
            System.out.println("line " + line + ", rule " + rule + ": " + what);
        }
    }

    private static void read() throws IOException {
        JavaCompiler compiler = ToolProvider.getSystemJavaCompiler();
        try (StandardJavaFileManager files = compiler.getStandardFileManager(null, null, null)) {
            JavacTask task = (JavacTask) compiler.getTask(
                    null, files, null, null, null, files.getJavaFileObjects(SOURCE));
            unit = task.parse().iterator().next();
            positions = Trees.instance(task).getSourcePositions();
        }
    }

    private static ClassTree theClass() {
        must(unit.getPackage() == null, 1, unit, "a package line");
        must(unit.getImports().isEmpty(), 3, unit, "an import");
        must(unit.getTypeDecls().size() == 1, 1, unit, "more than one class");
        return (ClassTree) unit.getTypeDecls().get(0);
    }

    private static boolean isArray(VariableTree variable) {
        return ARRAYS.contains(String.valueOf(variable.getType()));
    }

    private static void gatherMembers(ClassTree theClass) {
        must(theClass.getExtendsClause() == null && theClass.getImplementsClause().isEmpty(),
                1, theClass, "the class builds on another one");
        for (Tree member : theClass.getMembers()) {
            if (member instanceof VariableTree field) {
                boolean isStatic = field.getModifiers().getFlags().contains(Modifier.STATIC);
                (isStatic ? constants : fields).add(field.getName().toString());
                if (isArray(field)) arrays.add(field.getName().toString());
                must(!isStatic || !isArray(field), 5, field, "a static array");
            } else if (member instanceof MethodTree method) {
                MethodTree other = methods.put(method.getName().toString(), method);
                must(other == null, 1, method, "two methods of one name");
            } else {
                must(false, 1, member, "a member that is neither field nor method");
            }
        }
    }

    private static void lookAtMember(Tree member) {
        Look look = new Look();
        if (member instanceof VariableTree field) {
            look.scan(field.getType(), null);
            look.lookAtType(field);
            if (field.getInitializer() instanceof NewArrayTree made) {
                lookAtArrayMade(field, made);
            } else {
                must(!isArray(field), 4, field, "an array field without an array made in its line");
                look.scan(field.getInitializer(), null);
            }
        } else if (member instanceof MethodTree method) {
            callees.put(method.getName().toString(), look.called);
            look.scan(method, null);
            long first = lineOf(positions.getStartPosition(unit, method));
            long last = lineOf(positions.getEndPosition(unit, method));
            must(last - first < MOST_LINES, 10, method, "a long method");
            must(method.getThrows().isEmpty(), 6, method, "a method that throws");
        }
    }

    private static void lookAtArrayMade(VariableTree field, NewArrayTree made) {
        List<? extends ExpressionTree> lengths = made.getDimensions();
        boolean isKnown = lengths.size() == 1 && made.getInitializers() == null
                && (lengths.get(0) instanceof LiteralTree || constants.contains(lengths.get(0).toString()));
        must(isKnown, 4, field, "a length that is neither a literal nor a constant");
        must(field.getModifiers().getFlags().contains(Modifier.FINAL), 4, field, "an array field that can change");
    }

    // What a method calls, and what it must not have.
    private static final class Look extends TreeScanner<Void, Void> {
        private final Set<String> called = new HashSet<>();
        private final Set<String> arraysHere = new HashSet<>(arrays);
        private int inArguments = 0;

        private boolean namesArray(Tree tree) {
            return tree instanceof IdentifierTree && arraysHere.contains(tree.toString());
        }

        private void lookAtType(VariableTree variable) {
            String type = String.valueOf(variable.getType());
            must(TYPES.contains(type) || ARRAYS.contains(type), 2, variable, "the type " + type);
        }

        @Override
        public Void visitVariable(VariableTree variable, Void none) {
            lookAtType(variable);
            if (isArray(variable)) arraysHere.add(variable.getName().toString());
            must(!isArray(variable) || variable.getInitializer() == null, 4, variable, "a second name of an array");
            return super.visitVariable(variable, none);
        }

        @Override
        public Void visitMethod(MethodTree method, Void none) {
            String type = String.valueOf(method.getReturnType());
            boolean isMade = method.getReturnType() == null;
            must(isMade || type.equals("void") || TYPES.contains(type), 2, method, "the answer's type " + type);
            return super.visitMethod(method, none);
        }

        @Override
        public Void visitMethodInvocation(MethodInvocationTree call, Void none) {
            String name = call.getMethodSelect().toString();
            // The parser writes the call of Object's constructor into every constructor.
            if (name.equals("super")) return null;
            must(methods.containsKey(name), 3, call, "a call of " + name);
            must(inArguments == 0, 10, call, "a call inside the arguments of another one");
            called.add(name);
            inArguments++;
            scan(call.getArguments(), none);
            inArguments--;
            return null;
        }

        @Override
        public Void visitMemberSelect(MemberSelectTree select, Void none) {
            must(select.getIdentifier().contentEquals("length") && namesArray(select.getExpression()),
                    3, select, "a member of something else, " + select);
            return super.visitMemberSelect(select, none);
        }

        @Override
        public Void visitNewArray(NewArrayTree made, Void none) {
            must(false, 4, made, "an array made outside a field's line");
            return super.visitNewArray(made, none);
        }

        @Override
        public Void visitAssignment(AssignmentTree assignment, Void none) {
            must(!namesArray(assignment.getVariable()), 4, assignment, "another array for a name");
            return super.visitAssignment(assignment, none);
        }

        @Override
        public Void visitBinary(BinaryTree binary, Void none) {
            must(!namesArray(binary.getLeftOperand()) && !namesArray(binary.getRightOperand()),
                    4, binary, "an array that is compared");
            boolean divides = binary.getKind() == Tree.Kind.DIVIDE || binary.getKind() == Tree.Kind.REMAINDER;
            must(!divides || constants.contains(binary.getRightOperand().toString()),
                    7, binary, "a divisor that is no constant");
            return super.visitBinary(binary, none);
        }

        @Override
        public Void visitCompoundAssignment(CompoundAssignmentTree assignment, Void none) {
            must(assignment.getKind() != Tree.Kind.DIVIDE_ASSIGNMENT
                            && assignment.getKind() != Tree.Kind.REMAINDER_ASSIGNMENT,
                    7, assignment, "a divisor to look at");
            return super.visitCompoundAssignment(assignment, none);
        }

        @Override
        public Void visitReturn(ReturnTree answer, Void none) {
            must(!namesArray(answer.getExpression()), 4, answer, "an array as an answer");
            return super.visitReturn(answer, none);
        }

        @Override
        public Void visitLiteral(LiteralTree literal, Void none) {
            must(literal.getKind() != Tree.Kind.NULL_LITERAL, 4, literal, "null");
            must(literal.getKind() != Tree.Kind.STRING_LITERAL
                            && literal.getKind() != Tree.Kind.FLOAT_LITERAL
                            && literal.getKind() != Tree.Kind.DOUBLE_LITERAL,
                    2, literal, "the literal " + literal);
            return super.visitLiteral(literal, none);
        }

        @Override
        public Void visitTypeCast(TypeCastTree cast, Void none) {
            must(TYPES.contains(cast.getType().toString()), 6, cast, "a cast to " + cast.getType());
            return super.visitTypeCast(cast, none);
        }

        @Override
        public Void visitForLoop(ForLoopTree loop, Void none) {
            must(hasSeenEnd(loop), 8, loop, "a loop whose end isn't seen");
            return super.visitForLoop(loop, none);
        }

        private Void forbidden(int rule, Tree tree) {
            must(false, rule, tree, "a tree of the kind " + tree.getKind());
            return null;
        }

        @Override
        public Void visitWhileLoop(WhileLoopTree loop, Void none) {
            return forbidden(8, loop);
        }

        @Override
        public Void visitDoWhileLoop(DoWhileLoopTree loop, Void none) {
            return forbidden(8, loop);
        }

        @Override
        public Void visitEnhancedForLoop(EnhancedForLoopTree loop, Void none) {
            return forbidden(8, loop);
        }

        @Override
        public Void visitClass(ClassTree nested, Void none) {
            return forbidden(1, nested);
        }

        @Override
        public Void visitNewClass(NewClassTree made, Void none) {
            return forbidden(4, made);
        }

        @Override
        public Void visitThrow(ThrowTree tree, Void none) {
            return forbidden(6, tree);
        }

        @Override
        public Void visitTry(TryTree tree, Void none) {
            return forbidden(6, tree);
        }

        @Override
        public Void visitSynchronized(SynchronizedTree tree, Void none) {
            return forbidden(6, tree);
        }

        @Override
        public Void visitAssert(AssertTree tree, Void none) {
            return forbidden(6, tree);
        }

        @Override
        public Void visitInstanceOf(InstanceOfTree tree, Void none) {
            return forbidden(6, tree);
        }

        @Override
        public Void visitLambdaExpression(LambdaExpressionTree tree, Void none) {
            return forbidden(6, tree);
        }

        @Override
        public Void visitMemberReference(MemberReferenceTree tree, Void none) {
            return forbidden(6, tree);
        }
    }

    // A counter that begins in the loop's line, goes up by one there and nowhere else, and stands there
    // against a bound that the loop doesn't change.
    private static boolean hasSeenEnd(ForLoopTree loop) {
        if (loop.getInitializer().size() != 1 || loop.getUpdate().size() != 1) return false;
        if (!(loop.getInitializer().get(0) instanceof VariableTree counter)) return false;
        String name = counter.getName().toString();
        ExpressionStatementTree update = loop.getUpdate().get(0);
        if (!update.getExpression().toString().equals(name + "++")) return false;
        Changes body = new Changes();
        body.scan(loop.getStatement(), null);
        return !body.changed.contains(name) && isBounded(loop.getCondition(), name, body);
    }

    private static boolean isBounded(ExpressionTree condition, String counter, Changes body) {
        if (!(condition instanceof BinaryTree binary)) return false;
        ExpressionTree left = binary.getLeftOperand();
        ExpressionTree right = binary.getRightOperand();
        boolean isCounter = left.toString().equals(counter);
        return switch (binary.getKind()) {
            case CONDITIONAL_AND -> isBounded(left, counter, body) || isBounded(right, counter, body);
            // No int is above the greatest one, so <= needs a bound that is known.
            case LESS_THAN_EQUAL -> isCounter && constants.contains(right.toString());
            case LESS_THAN -> isCounter && isFixed(right, body);
            default -> false;
        };
    }

    private static boolean isFixed(ExpressionTree bound, Changes body) {
        String name = bound.toString();
        if (bound instanceof LiteralTree || constants.contains(name)) return true;
        // A method that the loop calls could change a field.
        boolean isSafe = !fields.contains(name) || !body.calls;
        return bound instanceof IdentifierTree && isSafe && !body.changed.contains(name);
    }

    private static final class Changes extends TreeScanner<Void, Void> {
        private final Set<String> changed = new HashSet<>();
        private boolean calls = false;

        @Override
        public Void visitAssignment(AssignmentTree assignment, Void none) {
            changed.add(assignment.getVariable().toString());
            return super.visitAssignment(assignment, none);
        }

        @Override
        public Void visitCompoundAssignment(CompoundAssignmentTree assignment, Void none) {
            changed.add(assignment.getVariable().toString());
            return super.visitCompoundAssignment(assignment, none);
        }

        // This takes !x and -x for changes too, which no counter or bound here needs.
        @Override
        public Void visitUnary(UnaryTree unary, Void none) {
            changed.add(unary.getExpression().toString());
            return super.visitUnary(unary, none);
        }

        @Override
        public Void visitMethodInvocation(MethodInvocationTree call, Void none) {
            calls = true;
            return super.visitMethodInvocation(call, none);
        }
    }

    private static int depthOf(String method, int above) {
        int deepest = above + 1;
        if (above > MOST_DEPTH) return deepest;
        for (String callee : callees.getOrDefault(method, Set.of())) {
            deepest = Math.max(deepest, depthOf(callee, above + 1));
        }
        return deepest;
    }

    private static void calls() {
        for (String name : methods.keySet()) {
            // What calls itself, also through others, has no end of its depth.
            must(depthOf(name, 0) <= MOST_DEPTH, 10, methods.get(name), "calls too deep, or recursion (rule 8)");
        }
    }

    public static void main(String[] args) throws IOException {
        read();
        ClassTree theClass = theClass();
        gatherMembers(theClass);
        for (Tree member : theClass.getMembers()) {
            if (!(member instanceof BlockTree)) lookAtMember(member);
        }
        calls();
        System.out.println(wrong == 0 ? "the rules are kept" : wrong + " places leave the rules");
        if (wrong != 0) System.exit(1);
    }
}
