import com.sun.source.tree.ArrayAccessTree;
import com.sun.source.tree.ArrayTypeTree;
import com.sun.source.tree.AssignmentTree;
import com.sun.source.tree.BinaryTree;
import com.sun.source.tree.ClassTree;
import com.sun.source.tree.CompilationUnitTree;
import com.sun.source.tree.CompoundAssignmentTree;
import com.sun.source.tree.ExpressionStatementTree;
import com.sun.source.tree.ExpressionTree;
import com.sun.source.tree.ForLoopTree;
import com.sun.source.tree.IdentifierTree;
import com.sun.source.tree.LiteralTree;
import com.sun.source.tree.MemberSelectTree;
import com.sun.source.tree.MethodInvocationTree;
import com.sun.source.tree.MethodTree;
import com.sun.source.tree.NewArrayTree;
import com.sun.source.tree.PrimitiveTypeTree;
import com.sun.source.tree.Tree;
import com.sun.source.tree.UnaryTree;
import com.sun.source.tree.VariableTree;
import com.sun.source.util.JavacTask;
import com.sun.source.util.TreeScanner;
import com.sun.source.util.Trees;
import java.io.IOException;
import java.nio.file.Path;
import java.util.EnumSet;
import java.util.List;
import java.util.Map;
import java.util.Set;
import java.util.TreeMap;
import java.util.TreeSet;
import javax.lang.model.element.Modifier;
import javax.lang.model.type.TypeKind;
import javax.tools.JavaCompiler;
import javax.tools.StandardJavaFileManager;
import javax.tools.ToolProvider;

/**
 * LANGUAGE.md's rules, looked for in the source as javac reads it. Where a rule leaves several ways, the test asks for
 * the one that the class has taken (arrays in field initialisers, loops that count up to a bound), so it may refuse
 * what the rule allows. FaceTest has rule 1; rule 7's index checks can't be seen from the form of the source, so
 * TermsTest calls with every kind of argument instead.
 */
public final class LanguageTest {
    private static final int MOST_PARAMETERS = 7;
    private static final int MOST_LINES = 60;
    private static final int MOST_DEPTH = 6;
    private static final int MOST_FIELDS = 40;

    // What is not named here is refused: throw, try, lambda, null, .. as forbidden, while and do as loops whose end
    // the test could not see, / and % as the arithmetic that can throw.
    private static final Set<Tree.Kind> KINDS = EnumSet.of(
            Tree.Kind.COMPILATION_UNIT, Tree.Kind.CLASS, Tree.Kind.MODIFIERS, Tree.Kind.METHOD, Tree.Kind.VARIABLE,
            Tree.Kind.PRIMITIVE_TYPE, Tree.Kind.ARRAY_TYPE, Tree.Kind.NEW_ARRAY, Tree.Kind.BLOCK, Tree.Kind.IF,
            Tree.Kind.FOR_LOOP, Tree.Kind.BREAK, Tree.Kind.CONTINUE, Tree.Kind.RETURN, Tree.Kind.EXPRESSION_STATEMENT,
            Tree.Kind.PARENTHESIZED, Tree.Kind.METHOD_INVOCATION, Tree.Kind.ARRAY_ACCESS, Tree.Kind.MEMBER_SELECT,
            Tree.Kind.IDENTIFIER, Tree.Kind.INT_LITERAL, Tree.Kind.BOOLEAN_LITERAL, Tree.Kind.ASSIGNMENT,
            Tree.Kind.PLUS_ASSIGNMENT, Tree.Kind.MINUS_ASSIGNMENT, Tree.Kind.OR_ASSIGNMENT, Tree.Kind.AND_ASSIGNMENT,
            Tree.Kind.XOR_ASSIGNMENT, Tree.Kind.POSTFIX_INCREMENT, Tree.Kind.POSTFIX_DECREMENT, Tree.Kind.UNARY_MINUS,
            Tree.Kind.BITWISE_COMPLEMENT, Tree.Kind.LOGICAL_COMPLEMENT, Tree.Kind.PLUS, Tree.Kind.MINUS,
            Tree.Kind.MULTIPLY, Tree.Kind.AND, Tree.Kind.OR, Tree.Kind.XOR, Tree.Kind.LEFT_SHIFT,
            Tree.Kind.RIGHT_SHIFT, Tree.Kind.CONDITIONAL_AND, Tree.Kind.CONDITIONAL_OR,
            Tree.Kind.CONDITIONAL_EXPRESSION, Tree.Kind.EQUAL_TO, Tree.Kind.NOT_EQUAL_TO, Tree.Kind.LESS_THAN,
            Tree.Kind.LESS_THAN_EQUAL, Tree.Kind.GREATER_THAN, Tree.Kind.GREATER_THAN_EQUAL);

    private static final Set<TypeKind> NUMBERS = EnumSet.of(TypeKind.INT, TypeKind.LONG, TypeKind.SHORT, TypeKind.BYTE,
            TypeKind.CHAR, TypeKind.BOOLEAN, TypeKind.VOID);

    public static void main(String[] args) throws IOException {
        JavaCompiler compiler = ToolProvider.getSystemJavaCompiler();
        try (StandardJavaFileManager files = compiler.getStandardFileManager(null, null, null)) {
            JavacTask task = (JavacTask) compiler.getTask(null, files, null, List.of("-proc:none"), null,
                    files.getJavaFileObjects(Path.of("src/main/java/TreeRanker.java")));
            CompilationUnitTree unit = task.parse().iterator().next();
            Check.due("imports", unit.getImports().size(), 0);
            Check.due("package line", unit.getPackage() == null, true);
            Check.due("classes", unit.getTypeDecls().size(), 1);
            ClassTree whole = (ClassTree) unit.getTypeDecls().get(0);
            kindsTypesAndNames(unit, whole);
            fields(whole);
            methods(unit, whole, Trees.instance(task));
            loops(whole);
            callDepth(calls(whole));
        }
        Check.end();
    }

    private static void kindsTypesAndNames(CompilationUnitTree unit, ClassTree whole) {
        Check.sentence("LANGUAGE.md 2, 3, 6");
        Set<String> own = calls(whole).keySet();
        new TreeScanner<Void, Void>() {
            @Override
            public Void scan(Tree tree, Void none) {
                if (tree != null) {
                    Check.due("kind of " + tree, KINDS.contains(tree.getKind()) ? "known" : tree.getKind(), "known");
                }
                return super.scan(tree, none);
            }

            @Override
            public Void visitPrimitiveType(PrimitiveTypeTree type, Void none) {
                Check.due("a number type: " + type, NUMBERS.contains(type.getPrimitiveTypeKind()), true);
                return null;
            }

            @Override
            public Void visitVariable(VariableTree variable, Void none) {
                Check.due("type of " + variable, isNumberOrArray(variable.getType()), true);
                return super.visitVariable(variable, none);
            }

            @Override
            public Void visitMemberSelect(MemberSelectTree select, Void none) {
                Check.due("object in " + select, select.getExpression().toString(), "this");
                return super.visitMemberSelect(select, none);
            }

            @Override
            public Void visitMethodInvocation(MethodInvocationTree call, Void none) {
                Check.due("a method of the class: " + call, own.contains(call.getMethodSelect().toString()), true);
                return super.visitMethodInvocation(call, none);
            }
        }.scan(unit, null);
    }

    private static boolean isNumberOrArray(Tree type) {
        Tree element = type instanceof ArrayTypeTree array ? array.getType() : type;
        return element instanceof PrimitiveTypeTree;
    }

    private static void fields(ClassTree whole) {
        Check.sentence("LANGUAGE.md 4, 5, 10");
        Set<String> constants = new TreeSet<>();
        Set<String> arrays = new TreeSet<>();
        int made = 0;
        int fields = 0;
        for (Tree member : whole.getMembers()) {
            if (member instanceof VariableTree field) {
                boolean isStatic = field.getModifiers().getFlags().contains(Modifier.STATIC);
                if (isStatic) {
                    constants.add(field.getName().toString());
                    Check.due("constant of int or long: " + field,
                            Set.of("int", "long").contains(field.getType().toString()), true);
                    Check.due("constant is known to javac: " + field, isConstant(field), true);
                } else {
                    fields++;
                }
                if (field.getType() instanceof ArrayTypeTree) {
                    arrays.add(field.getName().toString());
                    Check.due("array is made at once: " + field, isMadeWithConstant(field, constants), true);
                    made++;
                }
            } else {
                Check.due("a method: " + member, member instanceof MethodTree, true);
            }
        }
        Check.due("fields", fields <= MOST_FIELDS, true);
        Check.due("arrays made", count(whole, Tree.Kind.NEW_ARRAY), made);
        arraysStayTheirs(whole, arrays);
    }

    private static boolean isConstant(VariableTree field) {
        return field.getModifiers().getFlags().contains(Modifier.FINAL) && field.getInitializer() != null
                && count(field.getInitializer(), Tree.Kind.METHOD_INVOCATION) == 0;
    }

    private static boolean isMadeWithConstant(VariableTree field, Set<String> constants) {
        if (!(field.getInitializer() instanceof NewArrayTree made) || made.getDimensions().size() != 1) {
            return false;
        }
        ExpressionTree length = made.getDimensions().get(0);
        return length instanceof LiteralTree literal && (Integer) literal.getValue() >= 1
                || length instanceof IdentifierTree name && constants.contains(name.getName().toString());
    }

    /** An array's name stands nowhere but before an index: not answered, compared, assigned to or handed on. */
    private static void arraysStayTheirs(ClassTree whole, Set<String> arrays) {
        int[] namedAndIndexed = new int[2];
        new TreeScanner<Void, Void>() {
            @Override
            public Void visitIdentifier(IdentifierTree name, Void none) {
                namedAndIndexed[0] += arrays.contains(name.getName().toString()) ? 1 : 0;
                return null;
            }

            @Override
            public Void visitMemberSelect(MemberSelectTree select, Void none) {
                namedAndIndexed[0] += arrays.contains(select.getIdentifier().toString()) ? 1 : 0;
                return super.visitMemberSelect(select, none);
            }

            @Override
            public Void visitArrayAccess(ArrayAccessTree access, Void none) {
                namedAndIndexed[1]++;
                return super.visitArrayAccess(access, none);
            }
        }.scan(whole, null);
        Check.due("arrays named without an index", namedAndIndexed[0] - namedAndIndexed[1], 0);
    }

    private static int count(Tree within, Tree.Kind kind) {
        int[] found = new int[1];
        new TreeScanner<Void, Void>() {
            @Override
            public Void scan(Tree tree, Void none) {
                found[0] += tree != null && tree.getKind() == kind ? 1 : 0;
                return super.scan(tree, none);
            }
        }.scan(within, null);
        return found[0];
    }

    private static void methods(CompilationUnitTree unit, ClassTree whole, Trees trees) {
        Check.sentence("LANGUAGE.md 10");
        for (Tree member : whole.getMembers()) {
            if (member instanceof MethodTree method) {
                long start = unit.getLineMap().getLineNumber(trees.getSourcePositions().getStartPosition(unit, method));
                long end = unit.getLineMap().getLineNumber(trees.getSourcePositions().getEndPosition(unit, method));
                Check.due("lines of " + method.getName(), end - start < MOST_LINES, true);
                Check.due("parameters of " + method.getName(),
                        method.getParameters().size() <= MOST_PARAMETERS, true);
            }
        }
        new TreeScanner<Void, Void>() {
            @Override
            public Void visitMethodInvocation(MethodInvocationTree call, Void none) {
                for (ExpressionTree argument : call.getArguments()) {
                    Check.due("calls in an argument of " + call, count(argument, Tree.Kind.METHOD_INVOCATION), 0);
                }
                return super.visitMethodInvocation(call, none);
            }
        }.scan(whole, null);
    }

    /** for (int counter = ..; counter < bound; counter++), where nothing inside assigns to the counter or the bound. */
    private static void loops(ClassTree whole) {
        Check.sentence("LANGUAGE.md 8: every loop has an end that can be seen from its own lines");
        new TreeScanner<Void, Void>() {
            @Override
            public Void visitForLoop(ForLoopTree loop, Void none) {
                Check.due("end of " + loop, countsUp(loop), true);
                return super.visitForLoop(loop, none);
            }
        }.scan(whole, null);
    }

    private static boolean countsUp(ForLoopTree loop) {
        if (loop.getInitializer().size() != 1 || !(loop.getInitializer().get(0) instanceof VariableTree counter)
                || loop.getCondition() == null || loop.getCondition().getKind() != Tree.Kind.LESS_THAN
                || loop.getUpdate().size() != 1) {
            return false;
        }
        BinaryTree condition = (BinaryTree) loop.getCondition();
        ExpressionStatementTree update = loop.getUpdate().get(0);
        String name = counter.getName().toString();
        Set<String> assigned = assigned(loop.getStatement());
        return condition.getLeftOperand().toString().equals(name)
                && condition.getRightOperand() instanceof IdentifierTree bound
                && update.getExpression().toString().equals(name + "++")
                && !assigned.contains(name) && !assigned.contains(bound.getName().toString());
    }

    private static Set<String> assigned(Tree body) {
        Set<String> names = new TreeSet<>();
        new TreeScanner<Void, Void>() {
            @Override
            public Void visitAssignment(AssignmentTree assignment, Void none) {
                names.add(assignment.getVariable().toString());
                return super.visitAssignment(assignment, none);
            }

            @Override
            public Void visitCompoundAssignment(CompoundAssignmentTree assignment, Void none) {
                names.add(assignment.getVariable().toString());
                return super.visitCompoundAssignment(assignment, none);
            }

            @Override
            public Void visitUnary(UnaryTree unary, Void none) {
                names.add(unary.getExpression().toString());
                return super.visitUnary(unary, none);
            }
        }.scan(body, null);
        return names;
    }

    /** For each method the methods that it calls. */
    private static Map<String, Set<String>> calls(ClassTree whole) {
        Map<String, Set<String>> calls = new TreeMap<>();
        for (Tree member : whole.getMembers()) {
            if (member instanceof MethodTree method) {
                Set<String> called = new TreeSet<>();
                new TreeScanner<Void, Void>() {
                    @Override
                    public Void visitMethodInvocation(MethodInvocationTree call, Void none) {
                        called.add(call.getMethodSelect().toString());
                        return super.visitMethodInvocation(call, none);
                    }
                }.scan(method, null);
                boolean isNew = calls.put(method.getName().toString(), called) == null;
                Check.due("only one method is named " + method.getName(), isNew, true);
            }
        }
        return calls;
    }

    /** A recursion would be endlessly deep, so the bound on the depth rules it out as well. */
    private static void callDepth(Map<String, Set<String>> calls) {
        Check.sentence("LANGUAGE.md 8: no recursion; 10: calls go at most six deep");
        for (String method : calls.keySet()) {
            Set<String> reached = Set.of(method);
            int depth = 0;
            while (!reached.isEmpty() && depth <= MOST_DEPTH) {
                Set<String> next = new TreeSet<>();
                for (String caller : reached) {
                    next.addAll(calls.getOrDefault(caller, Set.of()));
                }
                reached = next;
                depth++;
            }
            Check.due("calls from " + method + " end in time", depth <= MOST_DEPTH, true);
        }
    }
}
