import com.sun.source.tree.BinaryTree;
import com.sun.source.tree.BlockTree;
import com.sun.source.tree.ClassTree;
import com.sun.source.tree.CompilationUnitTree;
import com.sun.source.tree.ExpressionTree;
import com.sun.source.tree.ForLoopTree;
import com.sun.source.tree.IdentifierTree;
import com.sun.source.tree.LineMap;
import com.sun.source.tree.LiteralTree;
import com.sun.source.tree.MethodInvocationTree;
import com.sun.source.tree.MethodTree;
import com.sun.source.tree.NewArrayTree;
import com.sun.source.tree.Tree;
import com.sun.source.tree.VariableTree;
import com.sun.source.util.JavacTask;
import com.sun.source.util.SourcePositions;
import com.sun.source.util.TreeScanner;
import com.sun.source.util.Trees;
import java.io.IOException;
import java.nio.file.Path;
import java.util.ArrayList;
import java.util.EnumSet;
import java.util.List;
import java.util.Map;
import java.util.Set;
import java.util.TreeMap;
import java.util.TreeSet;
import javax.lang.model.element.Modifier;
import javax.tools.JavaCompiler;
import javax.tools.StandardJavaFileManager;
import javax.tools.ToolProvider;

/**
 * The rules of LANGUAGE.md that the source shows. Where the program needs less than a rule leaves
 * (it has no while, no switch, no cast), less is let through.
 */
public final class LanguageTest {
    private static final Path SOURCE = Path.of("src/main/java/GridDuals.java");

    /** Whatever is not named here is refused: throw, try, null, a String, a double, an import, a lambda ... */
    private static final Set<Tree.Kind> LET_THROUGH = EnumSet.of(Tree.Kind.COMPILATION_UNIT, Tree.Kind.CLASS,
        Tree.Kind.MODIFIERS, Tree.Kind.VARIABLE, Tree.Kind.METHOD, Tree.Kind.PRIMITIVE_TYPE, Tree.Kind.ARRAY_TYPE,
        Tree.Kind.BLOCK, Tree.Kind.IF, Tree.Kind.FOR_LOOP, Tree.Kind.RETURN, Tree.Kind.EXPRESSION_STATEMENT,
        Tree.Kind.PARENTHESIZED, Tree.Kind.IDENTIFIER, Tree.Kind.INT_LITERAL, Tree.Kind.NEW_ARRAY,
        Tree.Kind.ARRAY_ACCESS, Tree.Kind.METHOD_INVOCATION, Tree.Kind.CONDITIONAL_EXPRESSION,
        Tree.Kind.ASSIGNMENT, Tree.Kind.PLUS_ASSIGNMENT, Tree.Kind.OR_ASSIGNMENT, Tree.Kind.AND_ASSIGNMENT,
        Tree.Kind.POSTFIX_INCREMENT, Tree.Kind.UNARY_MINUS, Tree.Kind.LOGICAL_COMPLEMENT, Tree.Kind.PLUS,
        Tree.Kind.MINUS, Tree.Kind.MULTIPLY, Tree.Kind.DIVIDE, Tree.Kind.REMAINDER, Tree.Kind.LEFT_SHIFT,
        Tree.Kind.AND, Tree.Kind.OR, Tree.Kind.LESS_THAN, Tree.Kind.LESS_THAN_EQUAL, Tree.Kind.GREATER_THAN,
        Tree.Kind.GREATER_THAN_EQUAL, Tree.Kind.EQUAL_TO, Tree.Kind.NOT_EQUAL_TO, Tree.Kind.CONDITIONAL_AND,
        Tree.Kind.CONDITIONAL_OR, Tree.Kind.BOOLEAN_LITERAL, Tree.Kind.LONG_LITERAL, Tree.Kind.MINUS_ASSIGNMENT,
        Tree.Kind.POSTFIX_DECREMENT, Tree.Kind.XOR, Tree.Kind.BITWISE_COMPLEMENT, Tree.Kind.RIGHT_SHIFT,
        Tree.Kind.UNSIGNED_RIGHT_SHIFT, Tree.Kind.BREAK, Tree.Kind.CONTINUE);
    private static final Set<String> NUMBER_TYPES = Set.of("int", "long", "short", "byte", "char", "boolean");
    private static final Set<String> ARRAY_TYPES =
        Set.of("int[]", "long[]", "short[]", "byte[]", "char[]", "boolean[]");
    private static final int MOST_PARAMETERS = 7;
    private static final int MOST_LINES = 60;
    private static final int MOST_DEPTH = 6;
    private static final int MOST_FIELDS = 40;

    private static CompilationUnitTree unit;
    private static SourcePositions positions;
    private static ClassTree program;
    private static final List<VariableTree> FIELDS = new ArrayList<>();
    private static final Map<String, MethodTree> METHODS = new TreeMap<>();

    public static void main(String[] args) throws IOException {
        read(args.length > 0 ? Path.of(args[0]) : SOURCE);
        oneClass();
        namesOfMethods();
        onlyWhatIsLetThrough();
        modifiers();
        types();
        namesOfItsOwn();
        arrays();
        staticFields();
        divisors();
        loops();
        depthOfCalls();
        sizes();
        Due.end();
    }

    private static void read(Path source) throws IOException {
        JavaCompiler compiler = ToolProvider.getSystemJavaCompiler();
        try (StandardJavaFileManager files = compiler.getStandardFileManager(null, null, null)) {
            JavacTask task = (JavacTask) compiler.getTask(null, files, null, null, null,
                files.getJavaFileObjects(source));
            unit = task.parse().iterator().next();
            positions = Trees.instance(task).getSourcePositions();
        }
        program = (ClassTree) unit.getTypeDecls().get(0);
    }

    private static void rule(String words) {
        Due.sentence("LANGUAGE.md " + words);
    }

    private static String at(Tree tree) {
        return "line " + unit.getLineMap().getLineNumber(positions.getStartPosition(unit, tree)) + ", " + tree;
    }

    private static boolean isPrivate(MethodTree method) {
        return method.getModifiers().getFlags().contains(Modifier.PRIVATE);
    }

    private static void oneClass() {
        rule("1: One class, public and final, in one file without a package line; nothing nested");
        Due.holds("one type in the file", unit.getTypeDecls().size() == 1);
        Due.holds("no package line", unit.getPackage() == null);
        Due.holds("public", program.getModifiers().getFlags().contains(Modifier.PUBLIC));
        Due.holds("final", program.getModifiers().getFlags().contains(Modifier.FINAL));
        Due.holds("extends nothing", program.getExtendsClause() == null && program.getImplementsClause().isEmpty());
        for (Tree member : program.getMembers()) {
            Due.holds("a field or a method: " + at(member), member instanceof VariableTree || member instanceof MethodTree);
        }
    }

    private static void namesOfMethods() {
        rule("1: No private method bears the name of a public one");
        for (Tree member : program.getMembers()) {
            if (member instanceof VariableTree) {
                FIELDS.add((VariableTree) member);
            } else if (member instanceof MethodTree) {
                MethodTree method = (MethodTree) member;
                // Names that are never borne twice keep the rule, and make calls plain to follow.
                Due.holds("another name: " + method.getName(), METHODS.put(method.getName().toString(), method) == null);
            }
        }
    }

    private static void onlyWhatIsLetThrough() {
        rule("2, 3, 4, 6, 8: no other part of the language");
        new TreeScanner<Void, Void>() {
            @Override
            public Void scan(Tree tree, Void none) {
                if (tree != null && !LET_THROUGH.contains(tree.getKind())) {
                    Due.holds("no " + tree.getKind() + ": " + at(tree), false);
                }
                return super.scan(tree, none);
            }
        }.scan(unit, null);
    }

    private static void modifiers() {
        rule("6, 7, 11: nothing synchronized, native or the like");
        Set<Modifier> ofMethods = EnumSet.of(Modifier.PUBLIC, Modifier.PRIVATE, Modifier.STATIC);
        for (MethodTree method : METHODS.values()) {
            Due.holds("modifiers of " + method.getName(), ofMethods.containsAll(method.getModifiers().getFlags()));
        }
        Set<Modifier> ofFields = EnumSet.of(Modifier.PUBLIC, Modifier.PRIVATE, Modifier.STATIC, Modifier.FINAL);
        for (VariableTree field : FIELDS) {
            Due.holds("modifiers of " + field.getName(), ofFields.containsAll(field.getModifiers().getFlags()));
        }
    }

    private static boolean isNumberOrArray(Tree type) {
        return type != null && (NUMBER_TYPES.contains(type.toString()) || ARRAY_TYPES.contains(type.toString()));
    }

    private static void types() {
        rule("2, 4: int, long, short, byte, char, boolean, and arrays of these; an array is never answered");
        new TreeScanner<Void, Void>() {
            @Override
            public Void visitVariable(VariableTree variable, Void none) {
                Due.holds(at(variable), isNumberOrArray(variable.getType()));
                return super.visitVariable(variable, none);
            }
        }.scan(program, null);
        for (MethodTree method : METHODS.values()) {
            Tree type = method.getReturnType();
            Due.holds("answer of " + method.getName(), type == null || NUMBER_TYPES.contains(type.toString())
                || (isPrivate(method) && type.toString().equals("void")));
        }
    }

    private static void namesOfItsOwn() {
        rule("3: No class of the Java library; none of Object's methods is called");
        Set<String> names = new TreeSet<>();
        new TreeScanner<Void, Void>() {
            @Override
            public Void visitVariable(VariableTree variable, Void none) {
                names.add(variable.getName().toString());
                return super.visitVariable(variable, none);
            }
        }.scan(program, null);
        for (IdentifierTree name : all(program, IdentifierTree.class)) {
            String word = name.getName().toString();
            Due.holds("a name of its own: " + word, names.contains(word) || METHODS.containsKey(word));
        }
    }

    private static boolean isConstant(VariableTree field) {
        return field.getModifiers().getFlags().contains(Modifier.STATIC);
    }

    private static boolean isConstantName(String name) {
        return FIELDS.stream().anyMatch(field -> field.getName().contentEquals(name) && isConstant(field));
    }

    private static void arrays() {
        rule("4: Arrays are made in a field's initialiser, with a length that is a literal or a constant");
        int inFields = 0;
        for (VariableTree field : FIELDS) {
            boolean array = ARRAY_TYPES.contains(field.getType().toString());
            Due.holds("made where it stands and never another: " + at(field), !array
                || (field.getInitializer() instanceof NewArrayTree
                    && field.getModifiers().getFlags().contains(Modifier.FINAL)));
            inFields += array ? 1 : 0;
        }
        List<NewArrayTree> made = all(program, NewArrayTree.class);
        Due.is("arrays made outside of fields", made.size() - inFields, 0);
        for (NewArrayTree array : made) {
            Due.holds("its length: " + at(array), array.getInitializers() == null && array.getDimensions().size() == 1
                && (array.getDimensions().get(0) instanceof LiteralTree
                    || isConstantName(array.getDimensions().get(0).toString())));
        }
        rule("4: (no array has a second name, so none is compared or changed for another)");
        new TreeScanner<Void, Void>() {
            @Override
            public Void visitArrayAccess(com.sun.source.tree.ArrayAccessTree access, Void none) {
                return scan(access.getIndex(), none);
            }

            @Override
            public Void visitIdentifier(IdentifierTree name, Void none) {
                Due.holds("array named without an index: " + name, FIELDS.stream().noneMatch(
                    field -> field.getName().equals(name.getName()) && ARRAY_TYPES.contains(field.getType().toString())));
                return null;
            }
        }.scan(program, null);
    }

    private static void staticFields() {
        rule("5: Static fields are compile-time constants of int or long alone");
        for (VariableTree field : FIELDS) {
            if (isConstant(field)) {
                String type = field.getType().toString();
                Due.holds(at(field), (type.equals("int") || type.equals("long"))
                    && field.getModifiers().getFlags().contains(Modifier.FINAL)
                    && field.getInitializer() instanceof LiteralTree);
            }
        }
    }

    private static void divisors() {
        rule("7: a divisor is looked at before it divides");
        for (BinaryTree binary : all(program, BinaryTree.class)) {
            if (binary.getKind() == Tree.Kind.DIVIDE || binary.getKind() == Tree.Kind.REMAINDER) {
                Due.holds("a number that is not 0: " + at(binary), binary.getRightOperand() instanceof LiteralTree
                    && !binary.getRightOperand().toString().equals("0"));
            }
        }
    }

    private static void loops() {
        rule("8: Every loop has an end that can be seen from its own lines (a counter against a bound)");
        for (ForLoopTree loop : all(program, ForLoopTree.class)) {
            boolean oneCounter = loop.getInitializer().size() == 1
                && loop.getInitializer().get(0) instanceof VariableTree && loop.getUpdate().size() == 1;
            Due.holds("one counter: " + at(loop), oneCounter);
            if (!oneCounter) {
                continue;
            }
            String counter = ((VariableTree) loop.getInitializer().get(0)).getName().toString();
            String update = loop.getUpdate().get(0).toString();
            Due.holds("it grows: " + update, update.equals(counter + "++;") || update.equals(counter + " += CUTS_STEP;"));
            ExpressionTree condition = loop.getCondition();
            Due.holds("against a constant: " + condition, condition.getKind() == Tree.Kind.LESS_THAN
                && ((BinaryTree) condition).getLeftOperand().toString().equals(counter)
                && isConstantName(((BinaryTree) condition).getRightOperand().toString()));
            Due.holds("left alone within: " + at(loop), !assigns(loop.getStatement(), counter));
        }
    }

    private static boolean assigns(Tree body, String name) {
        String words = body.toString();
        return words.matches("(?s).*\\b" + name + "(\\+\\+|--| [-+*/%&|^<>]*= ).*")
            || words.matches("(?s).*(\\+\\+|--)" + name + "\\b.*");
    }

    private static void depthOfCalls() {
        rule("8, 10: No recursion; calls go at most six deep");
        for (String method : METHODS.keySet()) {
            int depth = depth(method, MOST_DEPTH + 1);
            Due.holds(method + " goes " + depth + " deep", depth <= MOST_DEPTH);
        }
        rule("10: no call stands inside the arguments of another call");
        for (MethodInvocationTree call : all(program, MethodInvocationTree.class)) {
            for (ExpressionTree argument : call.getArguments()) {
                Due.holds(at(call), all(argument, MethodInvocationTree.class).isEmpty());
            }
        }
    }

    /** How many methods, itself among them, stand in the longest row of calls; a recursion reaches the bound. */
    private static int depth(String name, int bound) {
        int deepest = 0;
        BlockTree body = METHODS.get(name).getBody();
        for (MethodInvocationTree call : all(body, MethodInvocationTree.class)) {
            String called = call.getMethodSelect().toString();
            if (bound > 1 && METHODS.containsKey(called)) {
                deepest = Math.max(deepest, depth(called, bound - 1));
            }
        }
        return deepest + 1;
    }

    private static void sizes() {
        rule("10: at most seven parameters, some sixty lines, some forty fields");
        LineMap lines = unit.getLineMap();
        for (MethodTree method : METHODS.values()) {
            Due.holds("parameters of " + method.getName(), method.getParameters().size() <= MOST_PARAMETERS);
            long length = lines.getLineNumber(positions.getEndPosition(unit, method))
                - lines.getLineNumber(positions.getStartPosition(unit, method)) + 1;
            Due.holds(method.getName() + " has " + length + " lines", length <= MOST_LINES);
        }
        long fields = FIELDS.stream().filter(field -> !isConstant(field)).count();
        Due.holds(fields + " fields", fields <= MOST_FIELDS);
    }

    /** Every tree of a kind in another one. */
    private static <T extends Tree> List<T> all(Tree where, Class<T> kind) {
        List<T> found = new ArrayList<>();
        new TreeScanner<Void, Void>() {
            @Override
            public Void scan(Tree tree, Void none) {
                if (kind.isInstance(tree)) {
                    found.add(kind.cast(tree));
                }
                return super.scan(tree, none);
            }
        }.scan(where, null);
        return found;
    }
}
