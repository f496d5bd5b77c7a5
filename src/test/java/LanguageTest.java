import com.sun.source.tree.AssignmentTree;
import com.sun.source.tree.BinaryTree;
import com.sun.source.tree.ClassTree;
import com.sun.source.tree.CompilationUnitTree;
import com.sun.source.tree.DoWhileLoopTree;
import com.sun.source.tree.ExpressionTree;
import com.sun.source.tree.ForLoopTree;
import com.sun.source.tree.IdentifierTree;
import com.sun.source.tree.LiteralTree;
import com.sun.source.tree.MemberSelectTree;
import com.sun.source.tree.MethodInvocationTree;
import com.sun.source.tree.MethodTree;
import com.sun.source.tree.NewArrayTree;
import com.sun.source.tree.NewClassTree;
import com.sun.source.tree.ParenthesizedTree;
import com.sun.source.tree.Tree;
import com.sun.source.tree.Tree.Kind;
import com.sun.source.tree.TypeCastTree;
import com.sun.source.tree.VariableTree;
import com.sun.source.tree.WhileLoopTree;
import com.sun.source.util.JavacTask;
import com.sun.source.util.SourcePositions;
import com.sun.source.util.TreePath;
import com.sun.source.util.TreePathScanner;
import com.sun.source.util.TreeScanner;
import com.sun.source.util.Trees;
import java.io.IOException;
import java.nio.file.Path;
import java.util.EnumSet;
import java.util.HashMap;
import java.util.HashSet;
import java.util.List;
import java.util.Map;
import java.util.Set;
import java.util.TreeSet;
import javax.lang.model.element.Modifier;
import javax.tools.JavaCompiler;
import javax.tools.StandardJavaFileManager;
import javax.tools.ToolProvider;

/**
 * The class keeps to LANGUAGE.md. Not all of it is seen here: that no call
 * throws (rule 7) is for the tests that make calls; of a loop's bound (rule 8)
 * only that there is a comparison; of arrays (rule 4) neither what local names
 * stand for them nor the order of the constructor's lines, as the class has no
 * such names and makes no array there. Reads the class's text from the project's
 * directory, or from the file that is its argument.
 */
public final class LanguageTest extends TreePathScanner<Void, Void> {
    private static final int MOST_PARAMETERS = 7;
    private static final int MOST_LINES = 60;
    private static final int MOST_DEEP = 6;
    private static final int MOST_FIELDS = 40;

    private static final Set<String> NUMBERS = Set.of("int", "long", "short", "byte", "char", "boolean");
    private static final Set<Kind> RULED_OUT = EnumSet.of(
        Kind.THROW, Kind.TRY, Kind.CATCH, Kind.SYNCHRONIZED, Kind.ASSERT,
        Kind.INSTANCE_OF, Kind.LAMBDA_EXPRESSION, Kind.MEMBER_REFERENCE);
    private static final Set<Kind> NOT_A_NUMBER = EnumSet.of(
        Kind.STRING_LITERAL, Kind.FLOAT_LITERAL, Kind.DOUBLE_LITERAL, Kind.NULL_LITERAL);
    private static final Set<Kind> COMPARISONS = EnumSet.of(
        Kind.LESS_THAN, Kind.LESS_THAN_EQUAL, Kind.GREATER_THAN, Kind.GREATER_THAN_EQUAL);
    private static final Set<Kind> NOT_ROUND_AN_ARRAY = EnumSet.of(
        Kind.FOR_LOOP, Kind.ENHANCED_FOR_LOOP, Kind.WHILE_LOOP, Kind.DO_WHILE_LOOP,
        Kind.IF, Kind.SWITCH, Kind.SWITCH_EXPRESSION, Kind.CONDITIONAL_EXPRESSION);

    private final CompilationUnitTree unit;
    private final SourcePositions positions;
    private final Set<String> methods = new HashSet<>();
    private final Set<String> publicMethods = new HashSet<>();
    private final Set<String> constants = new HashSet<>();
    private final Set<String> arrays = new HashSet<>();
    private final Map<String, Set<String>> calls = new HashMap<>();
    private int wrong = 0;

    private LanguageTest(CompilationUnitTree unit, SourcePositions positions) {
        this.unit = unit;
        this.positions = positions;
    }

    private long lineAt(long position) {
        return unit.getLineMap().getLineNumber(position);
    }

    private void due(boolean kept, int rule, Tree where, String what) {
        if (!kept) {
            wrong++;
            long line = lineAt(positions.getStartPosition(unit, where));
            System.out.println("rule " + rule + ", line " + line + ": " + what);
        }
    }

    private static boolean isType(Tree type) {
        String text = type.toString();
        return NUMBERS.contains(text) || NUMBERS.contains(text.replaceFirst("\\[\\]$", ""));
    }

    private static boolean hasCall(Tree tree) {
        boolean[] found = {false};
        new TreeScanner<Void, Void>() {
            @Override
            public Void visitMethodInvocation(MethodInvocationTree call, Void v) {
                found[0] = true;
                return null;
            }
        }.scan(tree, null);
        return found[0];
    }

    private static boolean compares(Tree condition) {
        boolean[] found = {false};
        new TreeScanner<Void, Void>() {
            @Override
            public Void visitBinary(BinaryTree binary, Void v) {
                found[0] |= COMPARISONS.contains(binary.getKind());
                return super.visitBinary(binary, v);
            }
        }.scan(condition, null);
        return found[0];
    }

    private static Tree bare(Tree tree) {
        return tree instanceof ParenthesizedTree p ? bare(p.getExpression()) : tree;
    }

    private boolean namesAnArray(Tree tree) {
        Tree bare = bare(tree);
        String name = bare instanceof MemberSelectTree select ? select.getIdentifier().toString() : bare.toString();
        return arrays.contains(name);
    }

    private void learnNames(ClassTree type) {
        for (Tree member : type.getMembers()) {
            if (member instanceof MethodTree method) {
                methods.add(method.getName().toString());
                if (method.getModifiers().getFlags().contains(Modifier.PUBLIC)) {
                    publicMethods.add(method.getName().toString());
                }
            } else if (member instanceof VariableTree field) {
                learnField(field);
            }
        }
    }

    private void learnField(VariableTree field) {
        if (field.getModifiers().getFlags().contains(Modifier.STATIC)) {
            constants.add(field.getName().toString());
        } else if (field.getType().getKind() == Kind.ARRAY_TYPE) {
            arrays.add(field.getName().toString());
        }
    }

    @Override
    public Void visitCompilationUnit(CompilationUnitTree file, Void v) {
        due(file.getPackageName() == null, 1, file, "a package line");
        due(file.getImports().isEmpty(), 3, file, "an import");
        due(file.getTypeDecls().size() == 1, 1, file, "not one class");
        return super.visitCompilationUnit(file, v);
    }

    @Override
    public Void visitClass(ClassTree type, Void v) {
        boolean outer = getCurrentPath().getParentPath().getLeaf() == unit;
        due(outer && type.getKind() == Kind.CLASS, 1, type, "a type beside the class: " + type.getSimpleName());
        if (outer) {
            learnNames(type);
            Set<Modifier> flags = type.getModifiers().getFlags();
            due(flags.equals(EnumSet.of(Modifier.PUBLIC, Modifier.FINAL)), 1, type, "the class is " + flags);
            long fields = type.getMembers().stream().filter(m -> m instanceof VariableTree).count() - constants.size();
            due(fields <= MOST_FIELDS, 10, type, fields + " fields");
        }
        for (Tree member : type.getMembers()) {
            due(member.getKind() != Kind.BLOCK, 5, member, "an initialiser block");
        }
        return super.visitClass(type, v);
    }

    @Override
    public Void visitMethod(MethodTree method, Void v) {
        String name = method.getName().toString();
        boolean isPrivate = method.getModifiers().getFlags().contains(Modifier.PRIVATE);
        due(!isPrivate || !publicMethods.contains(name), 1, method, "private with a public name: " + name);
        due(method.getParameters().size() <= MOST_PARAMETERS, 10, method, "too many parameters: " + name);
        Tree answer = method.getReturnType();
        boolean answersNumber = answer == null || answer.toString().equals("void") || NUMBERS.contains(answer.toString());
        due(answersNumber, 4, method, name + " answers " + answer);
        long first = lineAt(positions.getStartPosition(unit, method));
        long lines = lineAt(positions.getEndPosition(unit, method)) - first + 1;
        due(lines <= MOST_LINES, 10, method, name + " has " + lines + " lines");
        calls.putIfAbsent(name, new TreeSet<>());
        return super.visitMethod(method, v);
    }

    @Override
    public Void visitVariable(VariableTree variable, Void v) {
        String name = variable.getName().toString();
        Set<Modifier> flags = variable.getModifiers().getFlags();
        due(variable.getType() != null && isType(variable.getType()), 2, variable, name + " is a " + variable.getType());
        if (flags.contains(Modifier.STATIC)) {
            String type = variable.getType().toString();
            ExpressionTree value = variable.getInitializer();
            due(type.equals("int") || type.equals("long"), 5, variable, "static and no number: " + name);
            due(flags.contains(Modifier.FINAL) && value != null && !hasCall(value), 5, variable, "no constant: " + name);
        }
        return super.visitVariable(variable, v);
    }

    private boolean isAtTheStart(TreePath path) {
        for (TreePath p = path.getParentPath(); p != null; p = p.getParentPath()) {
            Tree leaf = p.getLeaf();
            if (NOT_ROUND_AN_ARRAY.contains(leaf.getKind())) {
                return false;
            }
            if (leaf instanceof MethodTree method) {
                return method.getName().contentEquals("<init>");
            }
        }
        return true;
    }

    @Override
    public Void visitNewArray(NewArrayTree array, Void v) {
        due(isAtTheStart(getCurrentPath()), 4, array, "an array made after the start");
        due(array.getInitializers() == null && array.getDimensions().size() == 1, 4, array, "not one length");
        for (ExpressionTree length : array.getDimensions()) {
            boolean literal = length.getKind() == Kind.INT_LITERAL && !length.toString().equals("0");
            due(literal || constants.contains(length.toString()), 4, array, "a length that is not fixed: " + length);
        }
        return super.visitNewArray(array, v);
    }

    @Override
    public Void visitNewClass(NewClassTree made, Void v) {
        due(false, 4, made, "an object made");
        return super.visitNewClass(made, v);
    }

    @Override
    public Void visitAssignment(AssignmentTree assignment, Void v) {
        boolean atTheStart = isAtTheStart(getCurrentPath());
        due(atTheStart || !namesAnArray(assignment.getVariable()), 4, assignment, "an array field assigned");
        return super.visitAssignment(assignment, v);
    }

    @Override
    public Void visitBinary(BinaryTree binary, Void v) {
        boolean equality = binary.getKind() == Kind.EQUAL_TO || binary.getKind() == Kind.NOT_EQUAL_TO;
        boolean ofArrays = namesAnArray(binary.getLeftOperand()) || namesAnArray(binary.getRightOperand());
        due(!equality || !ofArrays, 4, binary, "an array compared");
        return super.visitBinary(binary, v);
    }

    @Override
    public Void visitLiteral(LiteralTree literal, Void v) {
        due(!NOT_A_NUMBER.contains(literal.getKind()), 2, literal, "no whole number: " + literal);
        return null;
    }

    @Override
    public Void visitTypeCast(TypeCastTree cast, Void v) {
        due(NUMBERS.contains(cast.getType().toString()), 6, cast, "a cast to " + cast.getType());
        return super.visitTypeCast(cast, v);
    }

    @Override
    public Void visitMemberSelect(MemberSelectTree select, Void v) {
        boolean own = select.getExpression().toString().equals("this");
        boolean length = select.getIdentifier().contentEquals("length");
        due(own || length, 3, select, "something of another class: " + select);
        return super.visitMemberSelect(select, v);
    }

    private String currentMethod() {
        for (TreePath p = getCurrentPath(); p != null; p = p.getParentPath()) {
            if (p.getLeaf() instanceof MethodTree method) {
                return method.getName().toString();
            }
        }
        return "<init>";
    }

    @Override
    public Void visitMethodInvocation(MethodInvocationTree call, Void v) {
        String name = call.getMethodSelect().toString().replaceFirst("^this\\.", "");
        due(methods.contains(name), 3, call, "no method of the class: " + name);
        calls.computeIfAbsent(currentMethod(), m -> new TreeSet<>()).add(name);
        for (ExpressionTree argument : call.getArguments()) {
            due(!hasCall(argument), 10, call, "a call inside the arguments of " + name);
        }
        return super.visitMethodInvocation(call, v);
    }

    @Override
    public Void visitForLoop(ForLoopTree loop, Void v) {
        due(compares(loop.getCondition()), 8, loop, "a loop without a bound");
        return super.visitForLoop(loop, v);
    }

    @Override
    public Void visitWhileLoop(WhileLoopTree loop, Void v) {
        due(compares(loop.getCondition()), 8, loop, "a loop without a bound");
        return super.visitWhileLoop(loop, v);
    }

    @Override
    public Void visitDoWhileLoop(DoWhileLoopTree loop, Void v) {
        due(compares(loop.getCondition()), 8, loop, "a loop without a bound");
        return super.visitDoWhileLoop(loop, v);
    }

    @Override
    public Void visitIdentifier(IdentifierTree name, Void v) {
        due(!name.getName().contentEquals("super"), 3, name, "super");
        return null;
    }

    @Override
    public Void scan(Tree tree, Void v) {
        due(tree == null || !RULED_OUT.contains(tree.getKind()), 6, tree, "ruled out");
        return super.scan(tree, v);
    }

    /** Methods on the longest way down from this one; more than any way can have if one comes back. */
    private int depth(String method, int above) {
        if (above > methods.size()) {
            return above;
        }
        int deepest = above + 1;
        for (String called : calls.getOrDefault(method, Set.of())) {
            deepest = Math.max(deepest, depth(called, above + 1));
        }
        return deepest;
    }

    private void checkCalls() {
        for (String method : new TreeSet<>(methods)) {
            int depth = depth(method, 0);
            due(depth <= methods.size(), 8, unit, method + " leads to a call of itself");
            due(depth <= MOST_DEEP, 10, unit, method + " goes " + depth + " deep");
        }
    }

    public static void main(String[] args) throws IOException {
        Path source = Path.of(args.length > 0 ? args[0] : "src/main/java/FountainDesk.java");
        JavaCompiler compiler = ToolProvider.getSystemJavaCompiler();
        try (StandardJavaFileManager files = compiler.getStandardFileManager(null, null, null)) {
            JavacTask task = (JavacTask) compiler.getTask(
                null, files, null, List.of("-proc:none"), null, files.getJavaFileObjects(source));
            CompilationUnitTree unit = task.parse().iterator().next();
            LanguageTest test = new LanguageTest(unit, Trees.instance(task).getSourcePositions());
            test.scan(unit, null);
            test.checkCalls();
            System.out.println(test.wrong == 0 ? "the rules are kept" : test.wrong + " rules are not kept");
            if (test.wrong != 0) {
                System.exit(1);
            }
        }
    }
}
