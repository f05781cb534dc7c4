import com.sun.source.tree.*;
import com.sun.source.util.JavacTask;
import com.sun.source.util.TreePath;
import com.sun.source.util.TreePathScanner;
import com.sun.source.util.Trees;
import java.io.File;
import java.io.IOException;
import java.util.EnumSet;
import java.util.HashMap;
import java.util.HashSet;
import java.util.List;
import java.util.Map;
import java.util.Set;
import java.util.TreeSet;
import javax.lang.model.element.Modifier;
import javax.lang.model.type.TypeKind;
import javax.tools.JavaCompiler;
import javax.tools.StandardJavaFileManager;
import javax.tools.ToolProvider;

/**
 * The rules of LANGUAGE.md that can be seen from the program's form. Rule 7 can't, and of rule 8 only the
 * usual form of a loop is known here: a counter that goes up or down by one against a bound.
 * Rule 11 follows from rule 3, and what can be seen from outside is looked at by FaceTest.
 */
public final class LanguageTest extends TreePathScanner<Void, Void> {
    private static final String PROGRAM = "src/main/java/StablePartition.java";
    private static final int LINES = 60;
    private static final int DEPTH = 6;
    private static final int PARAMETERS = 7;
    private static final int FIELDS = 40;

    private static final Set<TypeKind> NUMBERS = EnumSet.of(
            TypeKind.INT, TypeKind.LONG, TypeKind.SHORT, TypeKind.BYTE, TypeKind.CHAR, TypeKind.BOOLEAN);
    private static final Set<Tree.Kind> LITERALS = EnumSet.of(
            Tree.Kind.INT_LITERAL, Tree.Kind.LONG_LITERAL, Tree.Kind.CHAR_LITERAL, Tree.Kind.BOOLEAN_LITERAL);
    private static final Set<Tree.Kind> FORBIDDEN = EnumSet.of(
            Tree.Kind.THROW, Tree.Kind.TRY, Tree.Kind.CATCH, Tree.Kind.SYNCHRONIZED, Tree.Kind.ASSERT,
            Tree.Kind.INSTANCE_OF, Tree.Kind.LAMBDA_EXPRESSION, Tree.Kind.MEMBER_REFERENCE);
    private static final Set<Tree.Kind> BELOW = EnumSet.of(Tree.Kind.LESS_THAN, Tree.Kind.LESS_THAN_EQUAL);
    private static final Set<Tree.Kind> ABOVE = EnumSet.of(Tree.Kind.GREATER_THAN, Tree.Kind.GREATER_THAN_EQUAL);
    private static final Set<Tree.Kind> UP = EnumSet.of(Tree.Kind.POSTFIX_INCREMENT, Tree.Kind.PREFIX_INCREMENT);
    private static final Set<Tree.Kind> DOWN = EnumSet.of(Tree.Kind.POSTFIX_DECREMENT, Tree.Kind.PREFIX_DECREMENT);

    private static int wrong = 0;

    private final CompilationUnitTree unit;
    private final Trees trees;
    private final Set<String> constants = new HashSet<>();
    private final Set<String> arrays = new HashSet<>();
    private final Map<String, Set<String>> callsOf = new HashMap<>();
    private String method = "";

    private LanguageTest(CompilationUnitTree unit, Trees trees) {
        this.unit = unit;
        this.trees = trees;
    }

    public static void main(String[] args) throws IOException {
        JavaCompiler compiler = ToolProvider.getSystemJavaCompiler();
        try (StandardJavaFileManager files = compiler.getStandardFileManager(null, null, null)) {
            JavacTask task = (JavacTask) compiler.getTask(null, files, null, List.of("--release", "17", "-proc:none"),
                    null, files.getJavaFileObjects(new File(PROGRAM)));
            for (CompilationUnitTree unit : task.parse()) {
                new LanguageTest(unit, Trees.instance(task)).look();
            }
        }
        System.out.println(wrong == 0 ? "all rules are kept" : wrong + " breaches of the rules");
        if (wrong != 0) {
            System.exit(1);
        }
    }

    private void look() {
        require(1, unit.getPackage() == null, unit, "a package line");
        require(1, unit.getTypeDecls().size() == 1, unit, "not one class alone");
        require(3, unit.getImports().isEmpty(), unit, "an import");
        lookAtMembers((ClassTree) unit.getTypeDecls().get(0));
        scan(unit, null);
        for (String name : callsOf.keySet()) {
            require(10, depthOf(name, new TreeSet<>()) <= DEPTH, unit, "calls from " + name + " go too deep");
        }
    }

    private void require(int rule, boolean kept, Tree where, String breach) {
        if (!kept) {
            wrong++;
            System.out.println(PROGRAM + ":" + lineOf(trees.getSourcePositions().getStartPosition(unit, where))
                    + ": rule " + rule + ": " + breach);
        }
    }

    private long lineOf(long position) {
        return position < 0 ? 1 : unit.getLineMap().getLineNumber(position);
    }

    // ---- the members of the class

    private void lookAtMembers(ClassTree program) {
        Set<String> shown = new HashSet<>();
        Set<String> hidden = new HashSet<>();
        int fields = 0;
        for (Tree member : program.getMembers()) {
            require(5, !(member instanceof BlockTree), member, "an initialiser block");
            if (member instanceof MethodTree made) {
                (has(made.getModifiers(), Modifier.PRIVATE) ? hidden : shown).add(made.getName().toString());
            } else if (member instanceof VariableTree field) {
                fields += lookAtField(field) ? 0 : 1;
            }
        }
        hidden.retainAll(shown);
        require(1, hidden.isEmpty(), program, "private methods with the names of public ones: " + hidden);
        require(10, fields <= FIELDS, program, "too many fields");
        require(3, program.getExtendsClause() == null && program.getImplementsClause().isEmpty(), program, "a base");
    }

    /** Whether it is a constant. */
    private boolean lookAtField(VariableTree field) {
        String name = field.getName().toString();
        boolean last = has(field.getModifiers(), Modifier.FINAL);
        if (field.getType() instanceof ArrayTypeTree) {
            arrays.add(name);
            require(4, last, field, "an array field that can be assigned to");
        }
        if (!has(field.getModifiers(), Modifier.STATIC)) {
            return false;
        }
        constants.add(name);
        require(5, last && isNumber(field.getType()) && field.getInitializer() != null, field, "not a constant");
        if (field.getType() instanceof PrimitiveTypeTree type) {
            TypeKind kind = type.getPrimitiveTypeKind();
            require(5, kind == TypeKind.INT || kind == TypeKind.LONG, field, "a constant of another type");
        }
        return true;
    }

    private static boolean has(ModifiersTree modifiers, Modifier modifier) {
        return modifiers.getFlags().contains(modifier);
    }

    // ---- types, and what a class may not hold

    private static boolean isNumber(Tree type) {
        return type instanceof PrimitiveTypeTree simple && NUMBERS.contains(simple.getPrimitiveTypeKind());
    }

    @Override
    public Void scan(Tree tree, Void nothing) {
        if (tree != null) {
            require(6, !FORBIDDEN.contains(tree.getKind()), tree, "" + tree.getKind());
            require(2, !(tree instanceof LiteralTree) || LITERALS.contains(tree.getKind()), tree, "" + tree.getKind());
            require(4, !(tree instanceof NewClassTree), tree, "an object is made");
        }
        return super.scan(tree, nothing);
    }

    @Override
    public Void visitClass(ClassTree made, Void nothing) {
        require(1, getCurrentPath().getParentPath().getLeaf() == unit, made, "a class inside the class");
        return super.visitClass(made, nothing);
    }

    @Override
    public Void visitVariable(VariableTree variable, Void nothing) {
        Tree type = variable.getType();
        boolean fine = isNumber(type) || type instanceof ArrayTypeTree array && isNumber(array.getType());
        require(2, fine, variable, "the type of " + variable.getName());
        return super.visitVariable(variable, nothing);
    }

    @Override
    public Void visitTypeCast(TypeCastTree cast, Void nothing) {
        require(6, isNumber(cast.getType()), cast, "a cast to " + cast.getType());
        return super.visitTypeCast(cast, nothing);
    }

    @Override
    public Void visitMemberSelect(MemberSelectTree select, Void nothing) {
        boolean own = select.getExpression().toString().equals("this");
        require(3, own || select.getIdentifier().contentEquals("length"), select, "use of " + select);
        return super.visitMemberSelect(select, nothing);
    }

    // ---- arrays

    @Override
    public Void visitNewArray(NewArrayTree made, Void nothing) {
        TreePath around = getCurrentPath().getParentPath();
        boolean inField = around.getLeaf() instanceof VariableTree
                && around.getParentPath().getLeaf() instanceof ClassTree;
        require(4, inField, made, "an array made outside a field's initialiser");
        boolean oneLength = made.getInitializers() == null && made.getDimensions().size() == 1;
        require(4, oneLength && isLength(made.getDimensions().get(0)), made, "the length of an array");
        return super.visitNewArray(made, nothing);
    }

    private boolean isLength(ExpressionTree length) {
        return length instanceof LiteralTree literal && literal.getValue() instanceof Integer number && number > 0
                || constants.contains(length.toString());
    }

    /** An array is looked into or handed on, and nothing else is done with it. */
    @Override
    public Void visitIdentifier(IdentifierTree name, Void nothing) {
        Tree user = getCurrentPath().getParentPath().getLeaf();
        boolean lookedInto = user instanceof ArrayAccessTree access && access.getExpression() == name;
        boolean handedOn = user instanceof MethodInvocationTree call && call.getArguments().contains(name);
        boolean measured = user instanceof MemberSelectTree;
        boolean fine = !arrays.contains(name.toString()) || lookedInto || handedOn || measured;
        require(4, fine, name, "use of the array " + name);
        return super.visitIdentifier(name, nothing);
    }

    // ---- methods and calls

    @Override
    public Void visitMethod(MethodTree made, Void nothing) {
        method = made.getName().toString();
        callsOf.putIfAbsent(method, new TreeSet<>());
        Tree answer = made.getReturnType();
        boolean none = answer == null || answer.toString().equals("void");
        require(4, none || isNumber(answer), made, "what " + method + " answers");
        require(6, made.getThrows().isEmpty(), made, "throws");
        require(10, made.getParameters().size() <= PARAMETERS, made, "too many parameters");
        long first = lineOf(trees.getSourcePositions().getStartPosition(unit, made));
        long last = lineOf(trees.getSourcePositions().getEndPosition(unit, made));
        require(10, last - first < LINES, made, method + " is long");
        return super.visitMethod(made, nothing);
    }

    @Override
    public Void visitMethodInvocation(MethodInvocationTree call, Void nothing) {
        String name = call.getMethodSelect().toString();
        callsOf.get(method).add(name);
        for (ExpressionTree argument : call.getArguments()) {
            require(10, !holdsCall(argument), call, "a call inside the arguments of " + name);
        }
        return super.visitMethodInvocation(call, nothing);
    }

    private static boolean holdsCall(Tree tree) {
        boolean[] found = {false};
        new com.sun.source.util.TreeScanner<Void, Void>() {
            @Override
            public Void visitMethodInvocation(MethodInvocationTree call, Void nothing) {
                found[0] = true;
                return null;
            }
        }.scan(tree, null);
        return found[0];
    }

    private int depthOf(String name, Set<String> above) {
        require(3, callsOf.containsKey(name), unit, "a call of " + name + ", which the class doesn't have");
        require(8, !above.contains(name), unit, name + " comes back to itself");
        int deepest = 0;
        if (callsOf.containsKey(name) && above.add(name)) {
            for (String next : callsOf.get(name)) {
                deepest = Math.max(deepest, depthOf(next, above));
            }
            above.remove(name);
        }
        return deepest + 1;
    }

    // ---- loops

    @Override
    public Void visitForLoop(ForLoopTree loop, Void nothing) {
        lookAtLoop(loop, loop.getCondition());
        return super.visitForLoop(loop, nothing);
    }

    @Override
    public Void visitWhileLoop(WhileLoopTree loop, Void nothing) {
        lookAtLoop(loop, loop.getCondition());
        return super.visitWhileLoop(loop, nothing);
    }

    @Override
    public Void visitDoWhileLoop(DoWhileLoopTree loop, Void nothing) {
        lookAtLoop(loop, loop.getCondition());
        return super.visitDoWhileLoop(loop, nothing);
    }

    private void lookAtLoop(Tree loop, ExpressionTree condition) {
        ExpressionTree first = condition;
        while (first instanceof ParenthesizedTree || first != null && first.getKind() == Tree.Kind.CONDITIONAL_AND) {
            first = first instanceof ParenthesizedTree around
                    ? around.getExpression()
                    : ((BinaryTree) first).getLeftOperand();
        }
        boolean bounded = first instanceof BinaryTree test
                && test.getLeftOperand() instanceof IdentifierTree counter
                && (BELOW.contains(test.getKind()) && countsOnly(loop, counter.toString(), UP)
                        || ABOVE.contains(test.getKind()) && countsOnly(loop, counter.toString(), DOWN));
        require(8, bounded, loop, "a loop without a counter against a bound as its first condition");
    }

    /** Whether the loop counts the counter once, that way, and does not set it otherwise but where it is declared. */
    private static boolean countsOnly(Tree loop, String counter, Set<Tree.Kind> way) {
        int[] counts = {0};
        boolean[] set = {false};
        new com.sun.source.util.TreeScanner<Void, Void>() {
            @Override
            public Void visitUnary(UnaryTree unary, Void nothing) {
                boolean changes = UP.contains(unary.getKind()) || DOWN.contains(unary.getKind());
                if (changes && unary.getExpression().toString().equals(counter)) {
                    counts[0]++;
                    set[0] |= !way.contains(unary.getKind());
                }
                return super.visitUnary(unary, nothing);
            }

            @Override
            public Void visitAssignment(AssignmentTree assignment, Void nothing) {
                set[0] |= assignment.getVariable().toString().equals(counter);
                return super.visitAssignment(assignment, nothing);
            }

            @Override
            public Void visitCompoundAssignment(CompoundAssignmentTree assignment, Void nothing) {
                set[0] |= assignment.getVariable().toString().equals(counter);
                return super.visitCompoundAssignment(assignment, nothing);
            }
        }.scan(loop, null);
        return counts[0] == 1 && !set[0];
    }
}
