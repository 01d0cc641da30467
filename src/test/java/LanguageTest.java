import com.sun.source.tree.ArrayTypeTree;
import com.sun.source.tree.ClassTree;
import com.sun.source.tree.CompilationUnitTree;
import com.sun.source.tree.ExpressionTree;
import com.sun.source.tree.ForLoopTree;
import com.sun.source.tree.IdentifierTree;
import com.sun.source.tree.LineMap;
import com.sun.source.tree.MethodInvocationTree;
import com.sun.source.tree.MethodTree;
import com.sun.source.tree.NewArrayTree;
import com.sun.source.tree.PrimitiveTypeTree;
import com.sun.source.tree.Tree;
import com.sun.source.tree.Tree.Kind;
import com.sun.source.tree.VariableTree;
import com.sun.source.util.JavacTask;
import com.sun.source.util.SourcePositions;
import com.sun.source.util.TreeScanner;
import com.sun.source.util.Trees;
import java.io.IOException;
import java.nio.file.Path;
import java.util.HashMap;
import java.util.HashSet;
import java.util.Map;
import java.util.Set;
import java.util.TreeSet;
import javax.lang.model.element.Modifier;
import javax.lang.model.type.TypeKind;
import javax.tools.JavaCompiler;
import javax.tools.StandardJavaFileManager;
import javax.tools.ToolProvider;

/**
 * The rules of LANGUAGE.md that can be read off the program's text. FaceTest has the rest of rule 1, and rule 7
 * (no call throws) is what ModelTest and the tests of wrong inputs try. It asks a little more than the rules do
 * where that is simpler: every loop is a for, and there is no dot.
 */
public final class LanguageTest {
    private static final Check check = new Check();
    private static final Path PROGRAM = Path.of("src/main/java/TraitFlattener.java");

    /** Words of rules 2, 3, 6 and 8. A dot stands only where a member of some object or class is named. */
    private static final Set<Kind> FORBIDDEN = Set.of(Kind.THROW, Kind.TRY, Kind.CATCH, Kind.SYNCHRONIZED,
            Kind.ASSERT, Kind.INSTANCE_OF, Kind.LAMBDA_EXPRESSION, Kind.MEMBER_REFERENCE, Kind.NEW_CLASS,
            Kind.STRING_LITERAL, Kind.FLOAT_LITERAL, Kind.DOUBLE_LITERAL, Kind.NULL_LITERAL, Kind.MEMBER_SELECT,
            Kind.PARAMETERIZED_TYPE, Kind.ENHANCED_FOR_LOOP, Kind.WHILE_LOOP, Kind.DO_WHILE_LOOP);

    private static final Set<TypeKind> NUMBERS = Set.of(TypeKind.INT, TypeKind.LONG, TypeKind.SHORT, TypeKind.BYTE,
            TypeKind.CHAR, TypeKind.BOOLEAN);

    private final Map<String, Set<String>> calls = new HashMap<>();
    private final Set<String> constants = new HashSet<>();
    private CompilationUnitTree unit;
    private SourcePositions positions;

    public static void main(String[] args) throws IOException {
        new LanguageTest().read();
        check.end();
    }

    private void read() throws IOException {
        JavaCompiler compiler = ToolProvider.getSystemJavaCompiler();
        try (StandardJavaFileManager files = compiler.getStandardFileManager(null, null, null)) {
            JavacTask task = (JavacTask) compiler.getTask(null, files, null, null, null,
                    files.getJavaFileObjects(PROGRAM));
            unit = task.parse().iterator().next();
            positions = Trees.instance(task).getSourcePositions();
        }
        check.yes("rule 1: there is no package line", unit.getPackage() == null);
        check.same("rule 3: imports", unit.getImports().size(), 0);
        check.same("rule 1: classes of the file", unit.getTypeDecls().size(), 1);
        ClassTree program = (ClassTree) unit.getTypeDecls().get(0);
        members(program);
        words(program);
        for (String method : calls.keySet()) {
            int depth = depthOf(method, new TreeSet<>());
            check.yes("rule 10: calls of " + method + " go at most six deep, not " + depth, depth <= 6);
        }
    }

    private void members(ClassTree program) {
        int fields = 0;
        for (Tree member : program.getMembers()) {
            if (member instanceof VariableTree field) {
                fields += field(field);
            } else if (member instanceof MethodTree method) {
                method(method);
            } else {
                check.yes(at(member) + "rules 1 and 5: a member is a field or a method", false);
            }
        }
        check.yes("rule 10: at most forty fields beside the constants, not " + fields, fields <= 40);
    }

    /** Answers how many fields beside the constants this is. */
    private int field(VariableTree field) {
        if (!field.getModifiers().getFlags().contains(Modifier.STATIC)) {
            if (field.getInitializer() instanceof NewArrayTree array) {
                check.yes(at(field) + "rule 4: the length is a literal or a constant, at least 1", isLength(array));
                check.yes(at(field) + "rule 4: no method assigns to an array field",
                        field.getModifiers().getFlags().contains(Modifier.FINAL));
            }
            return 1;
        }
        constants.add(field.getName().toString());
        check.yes(at(field) + "rule 5: a static field is a constant",
                field.getModifiers().getFlags().contains(Modifier.FINAL) && field.getInitializer() != null
                && !(field.getInitializer() instanceof NewArrayTree));
        return 0;
    }

    private boolean isLength(NewArrayTree array) {
        if (array.getInitializers() != null || array.getDimensions().size() != 1) {
            return false;
        }
        ExpressionTree length = array.getDimensions().get(0);
        return length.getKind() == Kind.INT_LITERAL && !length.toString().equals("0")
                || length instanceof IdentifierTree && constants.contains(length.toString());
    }

    private void method(MethodTree method) {
        String name = method.getName().toString();
        check.yes(at(method) + "rule 10: at most seven parameters", method.getParameters().size() <= 7);
        long lines = line(positions.getEndPosition(unit, method)) - line(positions.getStartPosition(unit, method)) + 1;
        check.yes(at(method) + "rule 10: some sixty lines, not " + lines, lines <= 60);
        check.yes(at(method) + "no two methods bear one name", calls.put(name, new TreeSet<>()) == null);
        new TreeScanner<Void, Void>() {
            @Override
            public Void visitMethodInvocation(MethodInvocationTree call, Void unused) {
                calls.get(name).add(call.getMethodSelect().toString());
                for (ExpressionTree argument : call.getArguments()) {
                    check.no(at(call) + "rule 10: a call stands inside the arguments of another",
                            hasCall(argument));
                }
                return super.visitMethodInvocation(call, null);
            }

            @Override
            public Void visitNewArray(NewArrayTree array, Void unused) {
                check.yes(at(array) + "rule 4: arrays are made in the initialisers of fields", false);
                return null;
            }
        }.scan(method, null);
    }

    private static boolean hasCall(Tree tree) {
        boolean[] found = {false};
        new TreeScanner<Void, Void>() {
            @Override
            public Void visitMethodInvocation(MethodInvocationTree call, Void unused) {
                found[0] = true;
                return null;
            }
        }.scan(tree, null);
        return found[0];
    }

    private void words(ClassTree program) {
        new TreeScanner<Void, Void>() {
            @Override
            public Void scan(Tree tree, Void unused) {
                if (tree != null) {
                    check.no(at(tree) + tree.getKind() + " stands in the program", FORBIDDEN.contains(tree.getKind()));
                }
                return super.scan(tree, null);
            }

            @Override
            public Void visitVariable(VariableTree variable, Void unused) {
                Tree type = variable.getType();
                Tree element = type instanceof ArrayTypeTree array ? array.getType() : type;
                check.yes(at(variable) + "rule 2: a number, a boolean or an array of them",
                        element instanceof PrimitiveTypeTree);
                return super.visitVariable(variable, null);
            }

            @Override
            public Void visitMethod(MethodTree method, Void unused) {
                Tree type = method.getReturnType();
                check.yes(at(method) + "rules 2 and 4: a method answers a number, a boolean or nothing",
                        type == null || type instanceof PrimitiveTypeTree);
                return super.visitMethod(method, null);
            }

            @Override
            public Void visitPrimitiveType(PrimitiveTypeTree type, Void unused) {
                TypeKind kind = type.getPrimitiveTypeKind();
                check.yes(at(type) + "rule 2: " + kind, kind == TypeKind.VOID || NUMBERS.contains(kind));
                return null;
            }

            @Override
            public Void visitForLoop(ForLoopTree loop, Void unused) {
                check.yes(at(loop) + "rule 8: a counter rises against a bound", counts(loop));
                return super.visitForLoop(loop, null);
            }
        }.scan(program, null);
    }

    /** for (int i = ..; i < bound ..; i++), where the body of the loop does not set i. */
    private static boolean counts(ForLoopTree loop) {
        if (loop.getInitializer().size() != 1 || loop.getUpdate().size() != 1 || loop.getCondition() == null
                || !(loop.getInitializer().get(0) instanceof VariableTree counter)) {
            return false;
        }
        String name = counter.getName().toString();
        String body = loop.getStatement().toString();
        return loop.getCondition().toString().matches(name + " < \\w+( && [^|]*)?")
                && loop.getUpdate().get(0).toString().equals(name + "++;")
                && !body.matches("(?s).*\\b" + name + " *([-+*/%&|^]|<<|>>>?)?=[^=].*")
                && !body.matches("(?s).*(\\+\\+|--)" + name + "\\b.*|.*\\b" + name + "(\\+\\+|--).*");
    }

    /** How many calls stand below one another, and, by the way, that none comes back to where it began. */
    private int depthOf(String method, Set<String> above) {
        check.no("rule 8: " + method + " calls itself through " + above, above.contains(method));
        if (above.contains(method)) {
            return 0;
        }
        int deepest = 0;
        Set<String> here = new TreeSet<>(above);
        here.add(method);
        for (String called : calls.getOrDefault(method, Set.of())) {
            if (called.equals("super")) {
                continue;
            }
            check.yes("rule 3: " + called + " is a method of the class", calls.containsKey(called));
            deepest = Math.max(deepest, depthOf(called, here));
        }
        return deepest + 1;
    }

    private String at(Tree tree) {
        return "line " + line(positions.getStartPosition(unit, tree)) + ": ";
    }

    private long line(long position) {
        LineMap lines = unit.getLineMap();
        return position < 0 ? 0 : lines.getLineNumber(position);
    }
}
