import com.sun.source.tree.AssignmentTree;
import com.sun.source.tree.BlockTree;
import com.sun.source.tree.ClassTree;
import com.sun.source.tree.CompilationUnitTree;
import com.sun.source.tree.ExpressionTree;
import com.sun.source.tree.IdentifierTree;
import com.sun.source.tree.MethodInvocationTree;
import com.sun.source.tree.MethodTree;
import com.sun.source.tree.NewArrayTree;
import com.sun.source.tree.Tree;
import com.sun.source.tree.Tree.Kind;
import com.sun.source.tree.VariableTree;
import com.sun.source.util.JavacTask;
import com.sun.source.util.TreeScanner;
import java.io.IOException;
import java.nio.file.Path;
import java.util.ArrayList;
import java.util.EnumSet;
import java.util.HashSet;
import java.util.List;
import java.util.Map;
import java.util.Set;
import java.util.TreeMap;
import java.util.TreeSet;
import javax.lang.model.element.Modifier;
import javax.tools.JavaCompiler;
import javax.tools.StandardJavaFileManager;
import javax.tools.ToolProvider;

/**
 * The source keeps to those rules of LANGUAGE.md that its syntax tree shows: what it may be made of (1, 2, 3, 6),
 * arrays (4), constants (5), recursion (8) and sizes (10). FaceTest has the face and the types of the fields;
 * rule 7 and the ends of loops are left to a reader.
 */
public final class LanguageTest {
    private static final Path SOURCE = Path.of("src/main/java/SnapshotTree.java");
    private static final int MOST_PARAMETERS = 7;
    private static final int MOST_LINES = 60;
    private static final int MOST_CALLS_DEEP = 6;
    private static final int MOST_FIELDS = 40;

    // What may be there is listed, not what may not: a construct that nobody thought of is then a fault.
    // The rules leave a little more (casts between numbers, an array's length), which the class has had no use for.
    private static final Set<Kind> LEFT_BY_THE_RULES = EnumSet.of(
            Kind.COMPILATION_UNIT, Kind.CLASS, Kind.MODIFIERS, Kind.METHOD, Kind.VARIABLE, Kind.PRIMITIVE_TYPE,
            Kind.ARRAY_TYPE, Kind.NEW_ARRAY, Kind.ARRAY_ACCESS, Kind.IDENTIFIER, Kind.METHOD_INVOCATION, Kind.PARENTHESIZED,
            Kind.INT_LITERAL, Kind.LONG_LITERAL, Kind.CHAR_LITERAL, Kind.BOOLEAN_LITERAL,
            Kind.BLOCK, Kind.EXPRESSION_STATEMENT, Kind.EMPTY_STATEMENT, Kind.IF, Kind.FOR_LOOP, Kind.WHILE_LOOP,
            Kind.DO_WHILE_LOOP, Kind.SWITCH, Kind.CASE, Kind.BREAK, Kind.CONTINUE, Kind.LABELED_STATEMENT, Kind.RETURN,
            Kind.CONDITIONAL_EXPRESSION, Kind.CONDITIONAL_AND, Kind.CONDITIONAL_OR, Kind.LOGICAL_COMPLEMENT,
            Kind.EQUAL_TO, Kind.NOT_EQUAL_TO, Kind.LESS_THAN, Kind.LESS_THAN_EQUAL, Kind.GREATER_THAN,
            Kind.GREATER_THAN_EQUAL, Kind.PLUS, Kind.MINUS, Kind.MULTIPLY, Kind.DIVIDE, Kind.REMAINDER,
            Kind.UNARY_MINUS, Kind.UNARY_PLUS, Kind.BITWISE_COMPLEMENT, Kind.AND, Kind.OR, Kind.XOR,
            Kind.LEFT_SHIFT, Kind.RIGHT_SHIFT, Kind.UNSIGNED_RIGHT_SHIFT, Kind.ASSIGNMENT, Kind.PLUS_ASSIGNMENT,
            Kind.MINUS_ASSIGNMENT, Kind.MULTIPLY_ASSIGNMENT, Kind.DIVIDE_ASSIGNMENT, Kind.REMAINDER_ASSIGNMENT,
            Kind.AND_ASSIGNMENT, Kind.OR_ASSIGNMENT, Kind.XOR_ASSIGNMENT, Kind.LEFT_SHIFT_ASSIGNMENT,
            Kind.RIGHT_SHIFT_ASSIGNMENT, Kind.UNSIGNED_RIGHT_SHIFT_ASSIGNMENT, Kind.PREFIX_INCREMENT,
            Kind.PREFIX_DECREMENT, Kind.POSTFIX_INCREMENT, Kind.POSTFIX_DECREMENT);
    private static final Set<String> FLOATING = Set.of("float", "double");

    private static int wrong = 0;

    public static void main(String[] args) throws IOException {
        CompilationUnitTree unit = parse();
        check(unit.getTypeDecls().size() == 1, "1", "the file has not one type but " + unit.getTypeDecls().size());
        ClassTree type = (ClassTree) unit.getTypeDecls().get(0);
        new Constructs().scan(unit, null);
        checkConstants(type);
        checkArrays(type);
        checkCalls(type);
        checkSizes(type);
        System.out.println(wrong == 0 ? "the source keeps to the rules" : wrong + " faults in the source");
        if (wrong != 0) {
            System.exit(1);
        }
    }

    private static CompilationUnitTree parse() throws IOException {
        JavaCompiler compiler = ToolProvider.getSystemJavaCompiler();
        try (StandardJavaFileManager files = compiler.getStandardFileManager(null, null, null)) {
            List<String> options = List.of("--release", "17");
            var sources = files.getJavaFileObjects(SOURCE);
            JavacTask task = (JavacTask) compiler.getTask(null, files, null, options, null, sources);
            return task.parse().iterator().next();
        }
    }

    private static void check(boolean holds, String rule, String fault) {
        if (!holds) {
            wrong++;
            System.out.println("rule " + rule + ": " + fault);
        }
    }

    private static final class Constructs extends TreeScanner<Void, Void> {
        private int types = 0;

        @Override
        public Void scan(Tree tree, Void nothing) {
            if (tree != null) {
                Kind kind = tree.getKind();
                check(LEFT_BY_THE_RULES.contains(kind), "1, 2, 3 or 6", "not in the list: " + kind + " " + tree);
                types += kind == Kind.CLASS ? 1 : 0;
                check(types <= 1, "1", "a second class");
                boolean floating = kind == Kind.PRIMITIVE_TYPE && FLOATING.contains(tree.toString());
                check(!floating, "2", "the type " + tree);
            }
            return super.scan(tree, nothing);
        }

        @Override
        public Void visitVariable(VariableTree variable, Void nothing) {
            // A class's name would stand as a plain identifier where a type is due; var has no tree at all.
            Tree type = variable.getType();
            boolean plain = type != null && (type.getKind() == Kind.PRIMITIVE_TYPE || type.getKind() == Kind.ARRAY_TYPE);
            check(plain, "2", "the type of " + variable);
            return super.visitVariable(variable, nothing);
        }

        @Override
        public Void visitMethodInvocation(MethodInvocationTree call, Void nothing) {
            check(call.getMethodSelect().getKind() == Kind.IDENTIFIER, "3", "a call of something else: " + call);
            for (ExpressionTree argument : call.getArguments()) {
                check(callsIn(argument).isEmpty(), "10", "a call inside the arguments of another: " + call);
            }
            return super.visitMethodInvocation(call, nothing);
        }
    }

    private static Set<String> callsIn(Tree tree) {
        Set<String> names = new TreeSet<>();
        new TreeScanner<Void, Void>() {
            @Override
            public Void visitMethodInvocation(MethodInvocationTree call, Void nothing) {
                names.add(call.getMethodSelect().toString());
                return super.visitMethodInvocation(call, nothing);
            }
        }.scan(tree, null);
        return names;
    }

    private static List<VariableTree> fieldsOf(ClassTree type) {
        List<VariableTree> fields = new ArrayList<>();
        for (Tree member : type.getMembers()) {
            if (member instanceof VariableTree field) {
                fields.add(field);
            }
        }
        return fields;
    }

    private static boolean isStatic(VariableTree field) {
        return field.getModifiers().getFlags().contains(Modifier.STATIC);
    }

    private static List<MethodTree> methodsOf(ClassTree type) {
        List<MethodTree> methods = new ArrayList<>();
        for (Tree member : type.getMembers()) {
            if (member instanceof MethodTree method) {
                methods.add(method);
            }
        }
        return methods;
    }

    private static void checkConstants(ClassTree type) {
        for (Tree member : type.getMembers()) {
            check(!(member instanceof BlockTree), "5", "an initialiser block");
        }
        for (VariableTree field : fieldsOf(type)) {
            boolean computed = field.getInitializer() == null || !callsIn(field.getInitializer()).isEmpty();
            check(!isStatic(field) || !computed, "5", "not a compile-time constant: " + field);
        }
    }

    /** Stricter than rule 4, which lets the constructor make arrays too: here each is made with its field. */
    private static void checkArrays(ClassTree type) {
        Set<String> constants = new HashSet<>();
        Set<String> arrays = new HashSet<>();
        for (VariableTree field : fieldsOf(type)) {
            if (isStatic(field)) {
                constants.add(field.getName().toString());
            }
            if (field.getType().getKind() == Kind.ARRAY_TYPE) {
                arrays.add(field.getName().toString());
                check(isMadeWithLength(field.getInitializer(), constants), "4", "the array of " + field);
            }
        }
        for (MethodTree method : methodsOf(type)) {
            checkNoArrayIsMadeOrAssigned(method, arrays);
        }
    }

    private static boolean isMadeWithLength(ExpressionTree made, Set<String> constants) {
        if (!(made instanceof NewArrayTree array) || array.getDimensions().size() != 1) {
            return false;
        }
        ExpressionTree length = array.getDimensions().get(0);
        boolean constant = length instanceof IdentifierTree name && constants.contains(name.toString());
        return length.getKind() == Kind.INT_LITERAL || constant;
    }

    private static void checkNoArrayIsMadeOrAssigned(MethodTree method, Set<String> arrays) {
        new TreeScanner<Void, Void>() {
            @Override
            public Void visitNewArray(NewArrayTree array, Void nothing) {
                check(false, "4", method.getName() + " makes an array");
                return super.visitNewArray(array, nothing);
            }

            @Override
            public Void visitAssignment(AssignmentTree assignment, Void nothing) {
                check(!arrays.contains(assignment.getVariable().toString()), "4", method.getName() + ": " + assignment);
                return super.visitAssignment(assignment, nothing);
            }
        }.scan(method, null);
        boolean answersArray = method.getReturnType() != null && method.getReturnType().getKind() == Kind.ARRAY_TYPE;
        check(!answersArray, "4", method.getName() + " answers an array");
    }

    /** Takes away, round by round, the methods that call only methods taken away before; what stays calls itself. */
    private static void checkCalls(ClassTree type) {
        Map<String, Set<String>> open = new TreeMap<>();
        for (MethodTree method : methodsOf(type)) {
            open.computeIfAbsent(method.getName().toString(), name -> new TreeSet<>()).addAll(callsIn(method.getBody()));
        }
        Set<String> done = new TreeSet<>();
        int deep = -1;
        boolean going = true;
        while (going) {
            Set<String> next = new TreeSet<>(open.keySet());
            next.removeIf(name -> !done.containsAll(open.get(name)));
            next.forEach(open::remove);
            done.addAll(next);
            going = !next.isEmpty();
            deep += going ? 1 : 0;
        }
        check(open.isEmpty(), "8", "these call themselves, or what the class does not have: " + open);
        check(deep <= MOST_CALLS_DEEP, "10", "calls go " + deep + " deep");
    }

    private static void checkSizes(ClassTree type) {
        long fields = fieldsOf(type).stream().filter(field -> !isStatic(field)).count();
        check(fields <= MOST_FIELDS, "10", "the class has " + fields + " fields");
        for (MethodTree method : methodsOf(type)) {
            int lines = method.toString().strip().split("\n").length;
            check(lines <= MOST_LINES, "10", method.getName() + " has " + lines + " lines");
            int parameters = method.getParameters().size();
            check(parameters <= MOST_PARAMETERS, "10", method.getName() + " has " + parameters + " parameters");
        }
    }
}
