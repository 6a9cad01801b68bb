import com.sun.source.tree.AssignmentTree;
import com.sun.source.tree.BinaryTree;
import com.sun.source.tree.ClassTree;
import com.sun.source.tree.CompilationUnitTree;
import com.sun.source.tree.CompoundAssignmentTree;
import com.sun.source.tree.ExpressionTree;
import com.sun.source.tree.ForLoopTree;
import com.sun.source.tree.MethodInvocationTree;
import com.sun.source.tree.MethodTree;
import com.sun.source.tree.NewArrayTree;
import com.sun.source.tree.Tree;
import com.sun.source.tree.Tree.Kind;
import com.sun.source.tree.UnaryTree;
import com.sun.source.tree.VariableTree;
import com.sun.source.util.JavacTask;
import com.sun.source.util.TreeScanner;
import java.io.IOException;
import java.nio.file.Path;
import java.util.ArrayList;
import java.util.EnumSet;
import java.util.List;
import java.util.Map;
import java.util.Set;
import java.util.TreeMap;
import java.util.TreeSet;
import javax.lang.model.element.Modifier;
import javax.tools.JavaCompiler;
import javax.tools.ToolProvider;

/**
 * The rules of LANGUAGE.md as far as the form of the source tells them. Left to a
 * reader are rule 7 and, of rule 4, arrays under a local name. Of loops only the
 * plain for with a counter is taken, though rule 8 would allow others.
 */
public final class LanguageTest {
    private static final Set<String> FACE = Set.of("rate", "closed", "unique", "law",
            "chanceUpper", "chanceLower", "timeUpper", "timeLower");
    private static final Set<String> TYPES = Set.of("int", "long", "short", "byte", "char", "boolean");

    // A list of what is allowed, so that nothing is let through by being forgotten.
    private static final Set<Kind> ALLOWED = EnumSet.of(Kind.MODIFIERS, Kind.PRIMITIVE_TYPE, Kind.ARRAY_TYPE,
            Kind.VARIABLE, Kind.METHOD, Kind.BLOCK, Kind.EXPRESSION_STATEMENT, Kind.EMPTY_STATEMENT,
            Kind.IF, Kind.FOR_LOOP, Kind.SWITCH, Kind.CASE, Kind.BREAK, Kind.CONTINUE, Kind.LABELED_STATEMENT,
            Kind.RETURN, Kind.IDENTIFIER, Kind.PARENTHESIZED, Kind.ARRAY_ACCESS, Kind.METHOD_INVOCATION,
            Kind.NEW_ARRAY, Kind.TYPE_CAST, Kind.CONDITIONAL_EXPRESSION, Kind.ASSIGNMENT,
            Kind.INT_LITERAL, Kind.LONG_LITERAL, Kind.CHAR_LITERAL, Kind.BOOLEAN_LITERAL);

    private static final int MOST_PARAMETERS = 7;
    private static final int MOST_LINES = 60;
    private static final int MOST_CALLS_DEEP = 6;
    private static final int MOST_FIELDS = 40;

    private static final List<String> faults = new ArrayList<>();
    private static final Map<String, Set<String>> calls = new TreeMap<>();
    private static final Set<String> constants = new TreeSet<>();
    private static final Set<String> arrays = new TreeSet<>();

    private static void rule(int number, boolean holds, String where) {
        if (!holds) {
            faults.add("rule " + number + ": " + where);
        }
    }

    private static CompilationUnitTree parse(Path source) throws IOException {
        JavaCompiler compiler = ToolProvider.getSystemJavaCompiler();
        var files = compiler.getStandardFileManager(null, null, null);
        JavacTask task = (JavacTask) compiler.getTask(null, files, null, List.of("--release", "17"), null,
                files.getJavaFileObjects(source));
        return task.parse().iterator().next();
    }

    private static boolean has(Set<Modifier> flags, Modifier flag) {
        return flags.contains(flag);
    }

    private static boolean isType(Tree type) {
        String text = type.toString();
        return TYPES.contains(text.endsWith("[]") ? text.substring(0, text.length() - 2) : text);
    }

    private static boolean isConstant(Tree value) {
        return value.getKind() == Kind.INT_LITERAL || constants.contains(value.toString());
    }

    private static boolean isOperator(Kind kind) {
        Class<?> form = kind.asInterface();
        return form == BinaryTree.class || form == UnaryTree.class || form == CompoundAssignmentTree.class;
    }

    /** What holds anywhere in the class, whatever it stands in. */
    private static void everywhere(Tree root) {
        new TreeScanner<Void, Void>() {
            @Override
            public Void scan(Tree tree, Void nothing) {
                if (tree != null && tree != root) {
                    rule(6, ALLOWED.contains(tree.getKind()) || isOperator(tree.getKind()),
                            "(or 1 to 4) " + tree.getKind() + ": " + tree);
                }
                return super.scan(tree, nothing);
            }

            @Override
            public Void visitVariable(VariableTree variable, Void nothing) {
                rule(2, variable.getType() != null && isType(variable.getType()), variable.toString());
                return super.visitVariable(variable, nothing);
            }
        }.scan(root, null);
    }

    private static void field(VariableTree field) {
        Set<Modifier> flags = field.getModifiers().getFlags();
        String name = field.getName().toString();
        rule(1, has(flags, Modifier.PRIVATE), field.toString());
        if (has(flags, Modifier.STATIC)) {
            String type = field.getType().toString();
            rule(5, has(flags, Modifier.FINAL) && (type.equals("int") || type.equals("long")), field.toString());
            rule(5, field.getInitializer() != null && !holdsCall(field.getInitializer()), field.toString());
            constants.add(name);
        } else if (field.getType().getKind() == Kind.ARRAY_TYPE) {
            rule(4, has(flags, Modifier.FINAL) && field.getInitializer() instanceof NewArrayTree, field.toString());
            arrays.add(name);
        }
        if (field.getInitializer() instanceof NewArrayTree made) {
            rule(4, made.getInitializers() == null && made.getDimensions().size() == 1
                    && isConstant(made.getDimensions().get(0)), field.toString());
        }
    }

    private static void method(MethodTree method, long lines) {
        String name = method.getName().toString();
        Set<Modifier> flags = method.getModifiers().getFlags();
        boolean maker = name.equals("<init>");
        rule(1, has(flags, maker || FACE.contains(name) ? Modifier.PUBLIC : Modifier.PRIVATE), name);
        rule(1, calls.put(name, new TreeSet<>()) == null, name + " is there twice");
        rule(6, flags.size() == 1 || flags.equals(Set.of(Modifier.PRIVATE, Modifier.STATIC)), name + flags);
        rule(6, method.getThrows().isEmpty(), name);
        rule(10, method.getParameters().size() <= MOST_PARAMETERS, name);
        rule(10, lines <= MOST_LINES, name + " has " + lines + " lines");
        if (!maker) {
            String answer = method.getReturnType().toString();
            rule(2, TYPES.contains(answer) || answer.equals("void"), name + " answers " + answer);
        }
        body(name, method);
    }

    private static void body(String name, MethodTree method) {
        new TreeScanner<Void, Void>() {
            @Override
            public Void visitNewArray(NewArrayTree made, Void nothing) {
                rule(4, false, name + " makes an array");
                return super.visitNewArray(made, nothing);
            }

            @Override
            public Void visitAssignment(AssignmentTree assignment, Void nothing) {
                rule(4, !arrays.contains(assignment.getVariable().toString()), name + ": " + assignment);
                return super.visitAssignment(assignment, nothing);
            }

            @Override
            public Void visitBinary(BinaryTree binary, Void nothing) {
                rule(4, !arrays.contains(binary.getLeftOperand().toString()), name + ": " + binary);
                return super.visitBinary(binary, nothing);
            }

            @Override
            public Void visitMethodInvocation(MethodInvocationTree call, Void nothing) {
                calls.get(name).add(call.getMethodSelect().toString());
                for (ExpressionTree argument : call.getArguments()) {
                    rule(10, !holdsCall(argument), name + ": " + call);
                }
                return super.visitMethodInvocation(call, nothing);
            }

            @Override
            public Void visitForLoop(ForLoopTree loop, Void nothing) {
                rule(8, isCounted(loop), name + ": " + loop);
                return super.visitForLoop(loop, nothing);
            }
        }.scan(method, null);
    }

    private static boolean holdsCall(Tree tree) {
        boolean[] found = {false};
        new TreeScanner<Void, Void>() {
            @Override
            public Void visitMethodInvocation(MethodInvocationTree call, Void nothing) {
                found[0] = true;
                return null;
            }
        }.scan(tree, null);
        return found[0];
    }

    /** for (int k = 0; k < BOUND; k++), or with && and more behind the bound, and k left alone inside. */
    private static boolean isCounted(ForLoopTree loop) {
        if (loop.getInitializer().size() != 1 || !(loop.getInitializer().get(0) instanceof VariableTree counter)
                || loop.getUpdate().size() != 1 || !(loop.getCondition() instanceof BinaryTree condition)) {
            return false;
        }
        String name = counter.getName().toString();
        BinaryTree bound = condition.getKind() == Kind.CONDITIONAL_AND
                && condition.getLeftOperand() instanceof BinaryTree left ? left : condition;
        return bound.getKind() == Kind.LESS_THAN && bound.getLeftOperand().toString().equals(name)
                && isConstant(bound.getRightOperand())
                && loop.getUpdate().get(0).toString().equals(name + "++;")
                && isConstant(counter.getInitializer()) && !isChanged(name, loop.getStatement());
    }

    private static boolean isChanged(String name, Tree tree) {
        boolean[] found = {false};
        new TreeScanner<Void, Void>() {
            @Override
            public Void visitAssignment(AssignmentTree a, Void nothing) {
                found[0] |= a.getVariable().toString().equals(name);
                return super.visitAssignment(a, nothing);
            }

            @Override
            public Void visitCompoundAssignment(CompoundAssignmentTree a, Void nothing) {
                found[0] |= a.getVariable().toString().equals(name);
                return super.visitCompoundAssignment(a, nothing);
            }

            @Override
            public Void visitUnary(UnaryTree a, Void nothing) {
                boolean changes = a.getKind().name().contains("CREMENT");
                found[0] |= changes && a.getExpression().toString().equals(name);
                return super.visitUnary(a, nothing);
            }
        }.scan(tree, null);
        return found[0];
    }

    /** How deep the calls go from here on; beyond too deep it doesn't look, so that recursion has an end here. */
    private static int depth(String name, int above) {
        int most = 1;
        for (String called : calls.get(name)) {
            rule(3, calls.containsKey(called), name + " calls " + called);
            if (calls.containsKey(called) && above <= MOST_CALLS_DEEP) {
                most = Math.max(most, 1 + depth(called, above + 1));
            }
        }
        return most;
    }

    private static void wholeFile(CompilationUnitTree file) {
        rule(1, file.getPackage() == null, "a package line");
        rule(3, file.getImports().isEmpty(), "imports");
        rule(1, file.getTypeDecls().size() == 1, "more than one type");
        ClassTree type = (ClassTree) file.getTypeDecls().get(0);
        rule(1, type.getKind() == Kind.CLASS && type.getSimpleName().contentEquals("ChainLaws")
                && type.getModifiers().getFlags().equals(Set.of(Modifier.PUBLIC, Modifier.FINAL))
                && type.getExtendsClause() == null && type.getImplementsClause().isEmpty()
                && type.getTypeParameters().isEmpty(), "the class line");
        everywhere(type);
        int fields = 0;
        for (Tree member : type.getMembers()) {
            rule(1, member instanceof VariableTree || member instanceof MethodTree, member.toString());
            if (member instanceof VariableTree field) {
                field(field);
                fields += has(field.getModifiers().getFlags(), Modifier.STATIC) ? 0 : 1;
            }
        }
        rule(10, fields <= MOST_FIELDS, fields + " fields");
        for (Tree member : type.getMembers()) {
            if (member instanceof MethodTree method) {
                method(method, method.toString().strip().lines().count());
            }
        }
        for (String name : FACE) {
            rule(1, calls.containsKey(name), name + " is missing");
        }
        for (String name : calls.keySet()) {
            int deep = depth(name, 1);
            rule(10, deep <= MOST_CALLS_DEEP, name + " goes more than six deep, or calls itself (rule 8)");
        }
    }

    public static void main(String[] args) throws IOException {
        wholeFile(parse(Path.of(args.length > 0 ? args[0] : "src/main/java/ChainLaws.java")));
        faults.stream().distinct().forEach(System.out::println);
        System.out.println(calls.size() + " methods looked at, " + faults.size() + " faults");
        if (!faults.isEmpty() || calls.isEmpty()) {
            System.exit(1);
        }
    }
}
