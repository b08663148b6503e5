import com.sun.source.tree.ArrayAccessTree;
import com.sun.source.tree.ArrayTypeTree;
import com.sun.source.tree.BinaryTree;
import com.sun.source.tree.ClassTree;
import com.sun.source.tree.CompilationUnitTree;
import com.sun.source.tree.ExpressionTree;
import com.sun.source.tree.ForLoopTree;
import com.sun.source.tree.IdentifierTree;
import com.sun.source.tree.LiteralTree;
import com.sun.source.tree.MethodInvocationTree;
import com.sun.source.tree.MethodTree;
import com.sun.source.tree.NewArrayTree;
import com.sun.source.tree.PrimitiveTypeTree;
import com.sun.source.tree.Tree;
import com.sun.source.tree.Tree.Kind;
import com.sun.source.tree.VariableTree;
import com.sun.source.util.SourcePositions;
import com.sun.source.util.TreeScanner;
import java.util.ArrayDeque;
import java.util.Deque;
import java.util.EnumSet;
import java.util.HashMap;
import java.util.HashSet;
import java.util.Map;
import java.util.Set;
import java.util.TreeSet;
import javax.lang.model.element.Modifier;
import javax.lang.model.type.TypeKind;

/** Walks the class's source and holds each part of it against the rules of LANGUAGE.md. */
final class RuleReader extends TreeScanner<Void, Void> {
    // What is not named here is not in the language, or not needed: so a dot is a fault, and with
    // it every library class, and a for with a counter is the only loop.
    private static final Set<Kind> LEFT = EnumSet.of(Kind.COMPILATION_UNIT, Kind.CLASS, Kind.MODIFIERS,
            Kind.VARIABLE, Kind.METHOD, Kind.PRIMITIVE_TYPE, Kind.ARRAY_TYPE, Kind.NEW_ARRAY, Kind.BLOCK,
            Kind.IF, Kind.FOR_LOOP, Kind.SWITCH, Kind.CASE, Kind.RETURN, Kind.BREAK, Kind.CONTINUE,
            Kind.EXPRESSION_STATEMENT, Kind.METHOD_INVOCATION, Kind.IDENTIFIER, Kind.INT_LITERAL,
            Kind.LONG_LITERAL, Kind.BOOLEAN_LITERAL, Kind.PARENTHESIZED, Kind.ARRAY_ACCESS,
            Kind.ASSIGNMENT, Kind.CONDITIONAL_EXPRESSION, Kind.POSTFIX_INCREMENT,
            Kind.POSTFIX_DECREMENT, Kind.UNARY_MINUS, Kind.LOGICAL_COMPLEMENT, Kind.BITWISE_COMPLEMENT,
            Kind.PLUS, Kind.MINUS, Kind.MULTIPLY, Kind.LEFT_SHIFT, Kind.RIGHT_SHIFT,
            Kind.UNSIGNED_RIGHT_SHIFT, Kind.AND, Kind.OR, Kind.XOR, Kind.CONDITIONAL_AND,
            Kind.CONDITIONAL_OR, Kind.LESS_THAN, Kind.LESS_THAN_EQUAL, Kind.GREATER_THAN,
            Kind.GREATER_THAN_EQUAL, Kind.EQUAL_TO, Kind.NOT_EQUAL_TO);
    private static final Set<TypeKind> NUMBERS = EnumSet.of(TypeKind.INT, TypeKind.LONG, TypeKind.SHORT,
            TypeKind.BYTE, TypeKind.CHAR, TypeKind.BOOLEAN);
    private static final Set<TypeKind> ANSWERS = EnumSet.of(TypeKind.INT, TypeKind.LONG, TypeKind.SHORT,
            TypeKind.BYTE, TypeKind.CHAR, TypeKind.BOOLEAN, TypeKind.VOID);
    private static final Set<TypeKind> CONSTANTS = EnumSet.of(TypeKind.INT, TypeKind.LONG);
    private static final int MOST_LINES = 60;
    private static final int MOST_PARAMETERS = 7;
    private static final int MOST_DEEP = 6;
    private static final int MOST_FIELDS = 40;

    private final Checks checks;
    private final CompilationUnitTree file;
    private final SourcePositions positions;
    private final Map<String, Set<String>> callsOf = new HashMap<>();
    private final Set<String> constants = new HashSet<>();
    private final Set<String> arrays = new HashSet<>();
    private String method = "";
    private boolean insideArguments = false;

    RuleReader(Checks checks, CompilationUnitTree file, SourcePositions positions) {
        this.checks = checks;
        this.file = file;
        this.positions = positions;
    }

    void read() {
        checks.kept("rule 1: one class", file.getTypeDecls().size() == 1);
        scan(file, null);
        for (String name : callsOf.keySet()) {
            depthIsKept(name, new ArrayDeque<>());
        }
    }

    private void rule(int number, String words, Tree where, boolean kept) {
        long line = file.getLineMap().getLineNumber(positions.getStartPosition(file, where));
        checks.kept("line " + line + ", rule " + number + ": " + words, kept);
    }

    @Override
    public Void scan(Tree part, Void none) {
        if (part != null) {
            rule(9, part.getKind() + " is a kind of code that the class may have", part,
                    LEFT.contains(part.getKind()));
        }
        return super.scan(part, none);
    }

    @Override
    public Void visitClass(ClassTree type, Void none) {
        rule(1, "no nested class", type, callsOf.isEmpty());
        rule(1, "public and final, and nothing else", type,
                type.getModifiers().getFlags().equals(EnumSet.of(Modifier.PUBLIC, Modifier.FINAL)));
        rule(1, "extends and implements nothing", type,
                type.getExtendsClause() == null && type.getImplementsClause().isEmpty());
        int fields = 0;
        for (Tree member : type.getMembers()) {
            if (member instanceof MethodTree) {
                MethodTree declared = (MethodTree) member;
                Set<String> calls = callsOf.put(declared.getName().toString(), new TreeSet<>());
                rule(1, "one method a name", member, calls == null);
            } else if (member instanceof VariableTree) {
                fields += fieldIsKept((VariableTree) member) ? 1 : 0;
            } else {
                rule(1, "only fields and methods", member, false);
            }
        }
        rule(10, "some forty fields", type, fields <= MOST_FIELDS);
        return super.visitClass(type, none);
    }

    /** Whether it is a field beside the constants. */
    private boolean fieldIsKept(VariableTree field) {
        Set<Modifier> flags = field.getModifiers().getFlags();
        boolean isPublic = flags.contains(Modifier.PUBLIC);
        rule(1, "a field is private or a public constant", field,
                isPublic ? flags.contains(Modifier.STATIC) : flags.contains(Modifier.PRIVATE));
        if (flags.contains(Modifier.STATIC)) {
            rule(5, "a static field is a constant of int or long", field,
                    flags.contains(Modifier.FINAL) && isOneOf(CONSTANTS, field.getType())
                            && isConstant(field.getInitializer()));
            constants.add(field.getName().toString());
            return false;
        }
        if (field.getType() instanceof ArrayTypeTree) {
            rule(4, "an array field is final and made once, with a constant length", field,
                    flags.contains(Modifier.FINAL) && isMadeOnce(field.getInitializer()));
            arrays.add(field.getName().toString());
        }
        return true;
    }

    private static boolean isOneOf(Set<TypeKind> kinds, Tree type) {
        return type instanceof PrimitiveTypeTree
                && kinds.contains(((PrimitiveTypeTree) type).getPrimitiveTypeKind());
    }

    /** Made up of literals and of constants that stand above it. */
    private boolean isConstant(ExpressionTree value) {
        if (value instanceof BinaryTree) {
            BinaryTree both = (BinaryTree) value;
            return isConstant(both.getLeftOperand()) && isConstant(both.getRightOperand());
        }
        if (value instanceof IdentifierTree) {
            return constants.contains(value.toString());
        }
        return value != null && value.toString().matches("-?\\d+L?");
    }

    private boolean isMadeOnce(ExpressionTree value) {
        if (!(value instanceof NewArrayTree)) {
            return false;
        }
        NewArrayTree made = (NewArrayTree) value;
        return made.getInitializers() == null && made.getDimensions().size() == 1
                && isConstant(made.getDimensions().get(0));
    }

    @Override
    public Void visitMethod(MethodTree declared, Void none) {
        method = declared.getName().toString();
        boolean isConstructor = declared.getReturnType() == null;
        Set<Modifier> flags = declared.getModifiers().getFlags();
        rule(1, "a method is public or private", declared,
                flags.contains(Modifier.PUBLIC) != flags.contains(Modifier.PRIVATE));
        rule(2, "a method answers a number or nothing", declared,
                isConstructor || isOneOf(ANSWERS, declared.getReturnType()));
        rule(6, "no throws", declared, declared.getThrows().isEmpty());
        rule(10, "at most seven parameters", declared, declared.getParameters().size() <= MOST_PARAMETERS);
        long first = file.getLineMap().getLineNumber(positions.getStartPosition(file, declared));
        long last = file.getLineMap().getLineNumber(positions.getEndPosition(file, declared));
        rule(10, "some sixty lines", declared, last - first < MOST_LINES);
        super.visitMethod(declared, none);
        method = "";
        return none;
    }

    @Override
    public Void visitVariable(VariableTree variable, Void none) {
        Tree type = variable.getType();
        boolean isField = method.isEmpty();
        rule(2, "a number, or a field that is an array of numbers", variable, isOneOf(NUMBERS, type)
                || (isField && type instanceof ArrayTypeTree && isOneOf(NUMBERS, ((ArrayTypeTree) type).getType())));
        return super.visitVariable(variable, none);
    }

    @Override
    public Void visitNewArray(NewArrayTree made, Void none) {
        rule(4, "a method makes no array", made, method.isEmpty());
        return super.visitNewArray(made, none);
    }

    @Override
    public Void visitLiteral(LiteralTree literal, Void none) {
        Object value = literal.getValue();
        rule(2, "a literal is a whole number or a boolean", literal,
                value instanceof Integer || value instanceof Long || value instanceof Boolean);
        return super.visitLiteral(literal, none);
    }

    @Override
    public Void visitArrayAccess(ArrayAccessTree access, Void none) {
        rule(4, "only a field is an array", access, arrays.contains(access.getExpression().toString()));
        return scan(access.getIndex(), none);
    }

    // An array's name ahead of an index does not come here.
    @Override
    public Void visitIdentifier(IdentifierTree name, Void none) {
        rule(4, "an array is not answered, compared or assigned", name,
                !arrays.contains(name.getName().toString()));
        return super.visitIdentifier(name, none);
    }

    @Override
    public Void visitMethodInvocation(MethodInvocationTree call, Void none) {
        String name = call.getMethodSelect().toString();
        rule(10, "no call inside the arguments of another", call, !insideArguments);
        rule(3, "only the class's own methods are called", call, callsOf.containsKey(name));
        rule(5, "no field is made by a call", call, !method.isEmpty());
        if (!method.isEmpty()) {
            callsOf.get(method).add(name);
        }
        boolean before = insideArguments;
        insideArguments = true;
        scan(call.getArguments(), none);
        insideArguments = before;
        return none;
    }

    @Override
    public Void visitForLoop(ForLoopTree loop, Void none) {
        rule(8, "a loop counts one up or one down to a bound that it leaves alone", loop,
                CountedLoop.is(loop));
        return super.visitForLoop(loop, none);
    }

    private void depthIsKept(String name, Deque<String> path) {
        checks.kept("rule 8: no recursion in " + name + " from " + path, !path.contains(name));
        if (path.contains(name)) {
            return;
        }
        path.addLast(name);
        checks.kept("rule 10: calls at most six deep: " + path, path.size() <= MOST_DEEP);
        for (String called : callsOf.getOrDefault(name, Set.of())) {
            depthIsKept(called, path);
        }
        path.removeLast();
    }
}
