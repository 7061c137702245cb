import com.sun.source.tree.AssignmentTree;
import com.sun.source.tree.BinaryTree;
import com.sun.source.tree.BlockTree;
import com.sun.source.tree.ClassTree;
import com.sun.source.tree.CompilationUnitTree;
import com.sun.source.tree.CompoundAssignmentTree;
import com.sun.source.tree.ForLoopTree;
import com.sun.source.tree.IdentifierTree;
import com.sun.source.tree.ImportTree;
import com.sun.source.tree.MethodInvocationTree;
import com.sun.source.tree.MethodTree;
import com.sun.source.tree.NewArrayTree;
import com.sun.source.tree.Tree;
import com.sun.source.tree.UnaryTree;
import com.sun.source.tree.VariableTree;
import com.sun.source.util.JavacTask;
import com.sun.source.util.SourcePositions;
import com.sun.source.util.TreeScanner;
import com.sun.source.util.Trees;
import java.io.IOException;
import java.nio.file.Path;
import java.util.EnumSet;
import java.util.Map;
import java.util.Set;
import java.util.TreeMap;
import java.util.TreeSet;
import javax.lang.model.element.Modifier;
import javax.tools.JavaCompiler;
import javax.tools.StandardJavaFileManager;
import javax.tools.ToolProvider;

/**
 * LANGUAGE.md, as far as it can be read off the file: the tree that javac makes of the class is
 * looked through. The class needs less than the rules leave, so this asks for that less, and a
 * change that goes beyond it has to look at the rule first.
 */
final class LanguageTest extends TreeScanner<Void, Void> {
    private static final Path FILE = Path.of("src/main/java/SliceChecks.java");
    private static final Set<String> IMPORTS = Set.of("java.util.Arrays");
    private static final Set<String> LIBRARY_CALLS = Set.of("Arrays.fill", "System.arraycopy");
    private static final Set<String> TYPES = Set.of("int", "long", "boolean", "long[]");
    private static final Set<String> CONSTANT_TYPES = Set.of("int", "long");
    private static final Set<Tree.Kind> STEPS = EnumSet.of(
            Tree.Kind.PREFIX_INCREMENT, Tree.Kind.PREFIX_DECREMENT,
            Tree.Kind.POSTFIX_INCREMENT, Tree.Kind.POSTFIX_DECREMENT);
    private static final int MOST_PARAMETERS = 7;
    private static final int MOST_LINES = 60;
    private static final int MOST_FIELDS = 20;
    private static final int DEEPEST_CALLS = 8;

    /** What the class has no need of, by the rule that rules it out or narrows it. */
    private static final Map<Integer, Set<Tree.Kind>> UNUSED = Map.of(
            2, EnumSet.of(Tree.Kind.LAMBDA_EXPRESSION, Tree.Kind.MEMBER_REFERENCE),
            6, EnumSet.of(Tree.Kind.THROW, Tree.Kind.TRY, Tree.Kind.SYNCHRONIZED, Tree.Kind.ASSERT,
                    Tree.Kind.INSTANCE_OF),
            7, EnumSet.of(Tree.Kind.DIVIDE_ASSIGNMENT, Tree.Kind.REMAINDER_ASSIGNMENT),
            9, EnumSet.of(Tree.Kind.WHILE_LOOP, Tree.Kind.DO_WHILE_LOOP, Tree.Kind.ENHANCED_FOR_LOOP),
            12, EnumSet.of(Tree.Kind.NEW_CLASS));

    private final Due due = new Due();
    private final SourcePositions positions;
    private final CompilationUnitTree unit;
    private final Map<String, Set<String>> callsOf = new TreeMap<>();
    private final Set<String> constants = new TreeSet<>();
    private String method = "";
    private int fields = 0;

    private LanguageTest(CompilationUnitTree unit, SourcePositions positions) {
        this.unit = unit;
        this.positions = positions;
    }

    public static void main(String[] args) throws IOException {
        JavaCompiler compiler = ToolProvider.getSystemJavaCompiler();
        try (StandardJavaFileManager files = compiler.getStandardFileManager(null, null, null)) {
            JavacTask task = (JavacTask) compiler.getTask(
                    null, files, null, null, null, files.getJavaFileObjects(FILE));
            CompilationUnitTree unit = task.parse().iterator().next();
            LanguageTest test = new LanguageTest(unit, Trees.instance(task).getSourcePositions());
            test.file();
            test.scan(unit, null);
            test.wholeClass();
            test.due.end();
        }
    }

    private void holds(int rule, String what, boolean kept) {
        due.sentence("LANGUAGE.md, rule " + rule);
        due.same(what, kept, true);
    }

    private long lineOf(long place) {
        return unit.getLineMap().getLineNumber(place);
    }

    private String at(Tree tree) {
        return tree + " in line " + lineOf(positions.getStartPosition(unit, tree));
    }

    private void file() {
        holds(1, "no package line", unit.getPackage() == null);
        holds(1, "one class in the file", unit.getTypeDecls().size() == 1);
    }

    private void wholeClass() {
        holds(11, fields + " fields beside the constants", fields <= MOST_FIELDS);
        for (String name : callsOf.keySet()) {
            int deep = depth(name, 1);
            holds(8, name + " never comes back to itself", deep <= callsOf.size());
            holds(11, name + " goes " + deep + " calls deep", deep <= DEEPEST_CALLS);
        }
    }

    /** More than there are methods: one of them stands open twice. */
    private int depth(String name, int open) {
        if (open > callsOf.size()) {
            return open;
        }
        int deepest = open;
        for (String called : callsOf.getOrDefault(name, Set.of())) {
            deepest = Math.max(deepest, depth(called, open + 1));
            if (deepest > callsOf.size()) {
                return deepest;
            }
        }
        return deepest;
    }

    @Override
    public Void scan(Tree tree, Void none) {
        if (tree != null) {
            UNUSED.forEach((rule, kinds) -> holds(rule, at(tree), !kinds.contains(tree.getKind())));
        }
        return super.scan(tree, none);
    }

    @Override
    public Void visitImport(ImportTree tree, Void none) {
        holds(4, at(tree), IMPORTS.contains(tree.getQualifiedIdentifier().toString()) && !tree.isStatic());
        return super.visitImport(tree, none);
    }

    @Override
    public Void visitClass(ClassTree tree, Void none) {
        holds(2, "the class " + tree.getSimpleName(), method.isEmpty());
        for (Tree member : tree.getMembers()) {
            holds(5, "no initialiser block in line " + lineOf(positions.getStartPosition(unit, member)),
                    !(member instanceof BlockTree));
            if (member instanceof VariableTree field) {
                field(field);
            }
        }
        return super.visitClass(tree, none);
    }

    private void field(VariableTree field) {
        Set<Modifier> modifiers = field.getModifiers().getFlags();
        if (!modifiers.contains(Modifier.STATIC)) {
            fields++;
            return;
        }
        constants.add(field.getName().toString());
        holds(5, at(field), modifiers.contains(Modifier.FINAL)
                && CONSTANT_TYPES.contains(field.getType().toString()));
    }

    @Override
    public Void visitVariable(VariableTree tree, Void none) {
        holds(3, at(tree), TYPES.contains(tree.getType().toString()));
        return super.visitVariable(tree, none);
    }

    @Override
    public Void visitMethod(MethodTree tree, Void none) {
        method = tree.getName().toString();
        // Calls are told apart by name here, so a name twice would blur who calls whom.
        holds(8, method + " stands there once", callsOf.put(method, new TreeSet<>()) == null);
        long lines = lineOf(positions.getEndPosition(unit, tree))
                - lineOf(positions.getStartPosition(unit, tree)) + 1;
        holds(11, method + " has " + lines + " lines", lines <= MOST_LINES);
        holds(11, method + " takes " + tree.getParameters(), tree.getParameters().size() <= MOST_PARAMETERS);
        super.visitMethod(tree, none);
        method = "";
        return null;
    }

    @Override
    public Void visitMethodInvocation(MethodInvocationTree tree, Void none) {
        if (tree.getMethodSelect() instanceof IdentifierTree own) {
            callsOf.computeIfAbsent(method, unused -> new TreeSet<>()).add(own.toString());
        } else {
            holds(4, at(tree), LIBRARY_CALLS.contains(tree.getMethodSelect().toString()));
        }
        return super.visitMethodInvocation(tree, none);
    }

    /** Rows are made in the field's own line, that is by the constructor; no call makes one. */
    @Override
    public Void visitNewArray(NewArrayTree tree, Void none) {
        holds(12, at(tree), method.isEmpty() && tree.getDimensions().size() == 1);
        return super.visitNewArray(tree, none);
    }

    /** A counter with a start, a bound and a step, which nothing in the loop changes. */
    @Override
    public Void visitForLoop(ForLoopTree tree, Void none) {
        boolean counted = tree.getInitializer().size() == 1 && tree.getCondition() != null
                && tree.getUpdate().size() == 1;
        holds(9, at(tree), counted);
        if (counted && tree.getInitializer().get(0) instanceof VariableTree counter) {
            String name = counter.getName().toString();
            holds(9, at(tree), steps(tree.getUpdate().get(0).toString(), name));
            holds(9, at(tree), tree.getCondition().toString().contains(name));
            holds(9, at(tree), !changes(tree.getStatement(), name));
        } else {
            holds(9, at(tree), false);
        }
        return super.visitForLoop(tree, none);
    }

    private static boolean steps(String update, String counter) {
        return Set.of(counter + "++;", counter + "--;", counter + " += CUT_STEP;").contains(update);
    }

    private static boolean changes(Tree body, String counter) {
        boolean[] changed = {false};
        new TreeScanner<Void, Void>() {
            @Override
            public Void visitAssignment(AssignmentTree tree, Void none) {
                changed[0] |= tree.getVariable().toString().equals(counter);
                return super.visitAssignment(tree, none);
            }

            @Override
            public Void visitCompoundAssignment(CompoundAssignmentTree tree, Void none) {
                changed[0] |= tree.getVariable().toString().equals(counter);
                return super.visitCompoundAssignment(tree, none);
            }

            @Override
            public Void visitUnary(UnaryTree tree, Void none) {
                changed[0] |= STEPS.contains(tree.getKind())
                        && tree.getExpression().toString().equals(counter);
                return super.visitUnary(tree, none);
            }
        }.scan(body, null);
        return changed[0];
    }

    /** The class divides by constants alone, and javac itself refuses a constant 0. */
    @Override
    public Void visitBinary(BinaryTree tree, Void none) {
        if (tree.getKind() == Tree.Kind.DIVIDE || tree.getKind() == Tree.Kind.REMAINDER) {
            holds(7, at(tree), constants.contains(tree.getRightOperand().toString()));
        }
        return super.visitBinary(tree, none);
    }
}
