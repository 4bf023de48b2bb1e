import com.sun.source.tree.ClassTree;
import com.sun.source.tree.CompilationUnitTree;
import com.sun.source.tree.ExpressionTree;
import com.sun.source.tree.IdentifierTree;
import com.sun.source.tree.LineMap;
import com.sun.source.tree.MemberSelectTree;
import com.sun.source.tree.MethodInvocationTree;
import com.sun.source.tree.MethodTree;
import com.sun.source.tree.NewArrayTree;
import com.sun.source.tree.Tree;
import com.sun.source.tree.VariableTree;
import com.sun.source.util.JavacTask;
import com.sun.source.util.SourcePositions;
import com.sun.source.util.TreeScanner;
import com.sun.source.util.Trees;
import java.io.IOException;
import java.nio.file.Path;
import java.util.EnumSet;
import java.util.List;
import java.util.Map;
import java.util.Set;
import java.util.TreeMap;
import java.util.TreeSet;
import javax.tools.JavaCompiler;
import javax.tools.StandardJavaFileManager;
import javax.tools.ToolProvider;

/** The rules of LANGUAGE.md that can be read off the syntax tree of the class. */
public final class LanguageTest {
    private static final Checks CHECKS = new Checks("LanguageTest");
    private static final Path PROGRAM = Path.of("src/main/java/FusedPlans.java");
    private static final Set<String> TYPES = Set.of("int", "long", "short", "byte", "char", "boolean",
        "int[]", "long[]", "short[]", "byte[]", "char[]", "boolean[]", "void");
    private static final EnumSet<Tree.Kind> FORBIDDEN = EnumSet.of(Tree.Kind.THROW, Tree.Kind.TRY, Tree.Kind.CATCH,
        Tree.Kind.SYNCHRONIZED, Tree.Kind.ASSERT, Tree.Kind.INSTANCE_OF, Tree.Kind.LAMBDA_EXPRESSION,
        Tree.Kind.MEMBER_REFERENCE, Tree.Kind.NEW_CLASS, Tree.Kind.NULL_LITERAL, Tree.Kind.STRING_LITERAL,
        Tree.Kind.FLOAT_LITERAL, Tree.Kind.DOUBLE_LITERAL, Tree.Kind.IMPORT, Tree.Kind.PACKAGE,
        Tree.Kind.ANNOTATION);

    private static final Map<String, Set<String>> calls = new TreeMap<>();

    public static void main(String[] args) throws IOException {
        JavaCompiler compiler = ToolProvider.getSystemJavaCompiler();
        try (StandardJavaFileManager files = compiler.getStandardFileManager(null, null, null)) {
            JavacTask task = (JavacTask) compiler.getTask(null, files, null, List.of("--release", "17"), null,
                files.getJavaFileObjects(PROGRAM));
            CompilationUnitTree unit = task.parse().iterator().next();
            CHECKS.due("rule 1: types in the file", unit.getTypeDecls().size(), 1);
            unit.accept(new Forbidden(), null);
            members((ClassTree) unit.getTypeDecls().get(0), unit, Trees.instance(task).getSourcePositions());
        }
        for (String method : calls.keySet()) {
            CHECKS.due("rules 8 and 10: depth of " + method, depth(method, 1) <= 6, true);
        }
        CHECKS.end();
    }

    private static void members(ClassTree type, CompilationUnitTree unit, SourcePositions positions) {
        LineMap lines = unit.getLineMap();
        int fields = 0;
        for (Tree member : type.getMembers()) {
            if (member instanceof VariableTree) {
                boolean constant = ((VariableTree) member).getModifiers().toString().contains("static");
                fields += constant ? 0 : 1;
                if (constant) {
                    String kind = ((VariableTree) member).getType().toString();
                    CHECKS.due("rule 5: " + member, kind.equals("int") || kind.equals("long"), true);
                    CHECKS.due("rule 5: final " + member, member.toString().contains(" final "), true);
                }
            } else {
                CHECKS.due("rule 1: a member", member.getKind(), Tree.Kind.METHOD);
                MethodTree method = (MethodTree) member;
                String name = method.getName().toString();
                long first = lines.getLineNumber(positions.getStartPosition(unit, method));
                long last = lines.getLineNumber(positions.getEndPosition(unit, method));
                CHECKS.due("rule 10: length of " + name, last - first < 60, true);
                CHECKS.due("rule 10: parameters of " + name, method.getParameters().size() <= 7, true);
                Calls found = new Calls();
                method.accept(found, null);
                CHECKS.due("rule 4: arrays made in " + name, found.arrays, 0);
                calls.put(name, found.names);
            }
        }
        CHECKS.due("rule 10: fields", fields <= 40, true);
    }

    /** How many methods deep the calls go; a recursion comes out as more than any limit. */
    private static int depth(String method, int above) {
        int deepest = above;
        if (above > 50) {
            return above;
        }
        for (String called : calls.get(method)) {
            deepest = Math.max(deepest, depth(called, above + 1));
        }
        return deepest;
    }

    private static final class Calls extends TreeScanner<Void, Void> {
        final Set<String> names = new TreeSet<>();
        int arrays = 0;

        @Override
        public Void visitMethodInvocation(MethodInvocationTree call, Void nothing) {
            if (call.getMethodSelect() instanceof IdentifierTree && !call.getMethodSelect().toString().equals("super")) {
                names.add(call.getMethodSelect().toString());
            }
            for (ExpressionTree argument : call.getArguments()) {
                Calls inside = new Calls();
                argument.accept(inside, null);
                CHECKS.due("rule 10: calls in the arguments of " + call, inside.names.size(), 0);
            }
            return super.visitMethodInvocation(call, nothing);
        }

        @Override
        public Void visitNewArray(NewArrayTree array, Void nothing) {
            arrays++;
            return super.visitNewArray(array, nothing);
        }
    }

    private static final class Forbidden extends TreeScanner<Void, Void> {
        @Override
        public Void visitNewArray(NewArrayTree array, Void nothing) {
            boolean oneLength = array.getDimensions().size() == 1 && array.getInitializers() == null;
            CHECKS.due("rule 4: one length of " + array, oneLength, true);
            for (ExpressionTree length : array.getDimensions()) {
                CHECKS.due("rule 4: a literal or a constant in " + array, length.toString().matches("[1-9][0-9]*|[A-Z_]+"),
                    true);
            }
            return super.visitNewArray(array, nothing);
        }

        @Override
        public Void scan(Tree tree, Void nothing) {
            if (tree != null && FORBIDDEN.contains(tree.getKind())) {
                CHECKS.due("rules 2, 3, 4 and 6: " + tree.getKind(), tree.toString(), "not there");
            }
            return super.scan(tree, nothing);
        }

        @Override
        public Void visitMemberSelect(MemberSelectTree select, Void nothing) {
            boolean own = select.getExpression().toString().equals("this");
            CHECKS.due("rule 3: " + select, own || select.getIdentifier().contentEquals("length"), true);
            return super.visitMemberSelect(select, nothing);
        }

        @Override
        public Void visitVariable(VariableTree variable, Void nothing) {
            CHECKS.due("rule 2: " + variable, TYPES.contains(variable.getType().toString()), true);
            return super.visitVariable(variable, nothing);
        }

        @Override
        public Void visitMethod(MethodTree method, Void nothing) {
            Tree type = method.getReturnType();
            CHECKS.due("rules 2 and 4: " + method.getName(), type == null || !type.toString().endsWith("[]"), true);
            CHECKS.due("rule 2: " + method.getName(), type == null || TYPES.contains(type.toString()), true);
            return super.visitMethod(method, nothing);
        }
    }
}
