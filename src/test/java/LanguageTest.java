import com.sun.source.tree.*;
import com.sun.source.util.JavacTask;
import com.sun.source.util.SourcePositions;
import com.sun.source.util.TreeScanner;
import com.sun.source.util.Trees;
import java.io.IOException;
import java.nio.file.Path;
import java.util.ArrayDeque;
import java.util.Deque;
import java.util.EnumSet;
import java.util.HashSet;
import java.util.Map;
import java.util.Set;
import java.util.TreeMap;
import java.util.TreeSet;
import javax.lang.model.element.Modifier;
import javax.lang.model.type.TypeKind;
import javax.tools.JavaCompiler;
import javax.tools.StandardJavaFileManager;
import javax.tools.ToolProvider;

/** The source keeps to those rules of LANGUAGE.md that can be read off its syntax tree. */
final class LanguageTest extends TreeScanner<Void, Void> {
    private static final Path SOURCE = Path.of("src/main/java/DedupBlocks.java");
    private static final int MOST_PARAMETERS = 7;
    private static final int MOST_LINES = 60;
    private static final int MOST_DEPTH = 6;
    private static final int MOST_FIELDS = 40;
    private static final Set<Tree.Kind> RULED_OUT = EnumSet.of(
            Tree.Kind.THROW, Tree.Kind.TRY, Tree.Kind.SYNCHRONIZED, Tree.Kind.ASSERT, Tree.Kind.INSTANCE_OF,
            Tree.Kind.LAMBDA_EXPRESSION, Tree.Kind.MEMBER_REFERENCE, Tree.Kind.NEW_CLASS, Tree.Kind.NULL_LITERAL,
            Tree.Kind.STRING_LITERAL, Tree.Kind.FLOAT_LITERAL, Tree.Kind.DOUBLE_LITERAL, Tree.Kind.IMPORT,
            Tree.Kind.PACKAGE, Tree.Kind.INTERFACE, Tree.Kind.ENUM, Tree.Kind.RECORD, Tree.Kind.ANNOTATION_TYPE,
            Tree.Kind.PARAMETERIZED_TYPE);
    private static final Set<TypeKind> NUMBERS = EnumSet.of(TypeKind.INT, TypeKind.LONG, TypeKind.SHORT,
            TypeKind.BYTE, TypeKind.CHAR, TypeKind.BOOLEAN);

    private final CompilationUnitTree unit;
    private final SourcePositions positions;
    private final Map<String, Set<String>> calls = new TreeMap<>();
    private final Set<String> open = new HashSet<>();
    private final Set<String> hidden = new HashSet<>();
    private final Set<String> arrayFields = new HashSet<>();
    private String method = "";
    private int fields = 0;

    private LanguageTest(CompilationUnitTree unit, SourcePositions positions) {
        this.unit = unit;
        this.positions = positions;
    }

    public static void main(String[] args) throws IOException {
        JavaCompiler compiler = ToolProvider.getSystemJavaCompiler();
        try (StandardJavaFileManager files = compiler.getStandardFileManager(null, null, null)) {
            JavacTask task = (JavacTask) compiler.getTask(null, files, null, null, null, files.getJavaFileObjects(SOURCE));
            CompilationUnitTree unit = task.parse().iterator().next();
            LanguageTest test = new LanguageTest(unit, Trees.instance(task).getSourcePositions());
            Check.that("rule 1: one class", unit.getTypeDecls().size() == 1);
            test.scan(unit, null);
            test.whole();
        }
        Check.end();
    }

    private void whole() {
        Set<String> both = new TreeSet<>(open);
        both.retainAll(hidden);
        Check.that("rule 1: no private method bears the name of a public one: " + both, both.isEmpty());
        Check.that("rule 10: at most some forty fields", fields <= MOST_FIELDS);
        Check.that("the methods were seen", open.contains("write") && calls.get("write").size() > 0);
        for (String name : calls.keySet()) {
            Set<String> foreign = new TreeSet<>(calls.get(name));
            foreign.removeAll(calls.keySet());
            Check.that("rule 3: " + name + " calls only what the class declares: " + foreign, foreign.isEmpty());
            depth(name, new ArrayDeque<>());
        }
    }

    private void depth(String name, Deque<String> above) {
        boolean again = above.contains(name);
        Check.that("rule 8: no recursion: " + above + " " + name, !again);
        above.addLast(name);
        Check.that("rule 10: calls at most six deep: " + above, above.size() <= MOST_DEPTH);
        if (!again) {
            for (String next : calls.getOrDefault(name, Set.of())) {
                depth(next, above);
            }
        }
        above.removeLast();
    }

    private long line(Tree tree) {
        return unit.getLineMap().getLineNumber(positions.getStartPosition(unit, tree));
    }

    private static String ownName(Tree tree) {
        String name = tree.toString();
        return name.startsWith("this.") ? name.substring("this.".length()) : name;
    }

    private static boolean isNumber(Tree type) {
        return type instanceof PrimitiveTypeTree p && NUMBERS.contains(p.getPrimitiveTypeKind());
    }

    private static boolean isArrayOfNumbers(Tree type) {
        return type instanceof ArrayTypeTree a && isNumber(a.getType());
    }

    @Override
    public Void scan(Tree tree, Void nothing) {
        if (tree != null) {
            boolean ruledOut = RULED_OUT.contains(tree.getKind());
            Check.that("rules 1 to 6: line " + (ruledOut ? line(tree) : 0) + " has " + tree.getKind(), !ruledOut);
        }
        return super.scan(tree, nothing);
    }

    @Override
    public Void visitClass(ClassTree tree, Void nothing) {
        Check.that("rule 1: no nested class: " + tree.getSimpleName(), tree.getSimpleName().contentEquals("DedupBlocks"));
        for (Tree member : tree.getMembers()) {
            if (member instanceof VariableTree field) {
                field(field);
            }
            Check.that("rule 5: no initialiser block", member.getKind() != Tree.Kind.BLOCK);
        }
        return super.visitClass(tree, nothing);
    }

    private void field(VariableTree tree) {
        Set<Modifier> modifiers = tree.getModifiers().getFlags();
        if (modifiers.contains(Modifier.STATIC)) {
            boolean whole = tree.getType() instanceof PrimitiveTypeTree p
                    && (p.getPrimitiveTypeKind() == TypeKind.INT || p.getPrimitiveTypeKind() == TypeKind.LONG);
            Check.that("rule 5: a constant of int or long: " + tree, whole && modifiers.contains(Modifier.FINAL)
                    && tree.getInitializer() != null);
            return;
        }
        fields++;
        Check.that("rule 1: private: " + tree, modifiers.contains(Modifier.PRIVATE));
        if (isArrayOfNumbers(tree.getType())) {
            arrayFields.add(tree.getName().toString());
        }
    }

    @Override
    public Void visitPrimitiveType(PrimitiveTypeTree tree, Void nothing) {
        Check.that("rule 2: no float or double: " + tree, isNumber(tree) || tree.getPrimitiveTypeKind() == TypeKind.VOID);
        return super.visitPrimitiveType(tree, nothing);
    }

    @Override
    public Void visitVariable(VariableTree tree, Void nothing) {
        Check.that("rule 2: whole numbers and arrays of them: " + tree, isNumber(tree.getType()) || isArrayOfNumbers(tree.getType()));
        return super.visitVariable(tree, nothing);
    }

    @Override
    public Void visitMethod(MethodTree tree, Void nothing) {
        method = tree.getName().toString();
        calls.putIfAbsent(method, new TreeSet<>());
        (tree.getModifiers().getFlags().contains(Modifier.PRIVATE) ? hidden : open).add(method);
        long first = line(tree);
        long last = unit.getLineMap().getLineNumber(positions.getEndPosition(unit, tree));
        Check.that("rule 10: short: " + method, last - first < MOST_LINES);
        Check.that("rule 10: at most seven parameters: " + method, tree.getParameters().size() <= MOST_PARAMETERS);
        Check.that("rule 4: answers no array: " + method, !(tree.getReturnType() instanceof ArrayTypeTree));
        super.visitMethod(tree, nothing);
        method = "";
        return null;
    }

    @Override
    public Void visitNewArray(NewArrayTree tree, Void nothing) {
        Check.that("rule 4: made in a field's initialiser or the constructor: " + tree, method.isEmpty() || method.equals("<init>"));
        return super.visitNewArray(tree, nothing);
    }

    @Override
    public Void visitAssignment(AssignmentTree tree, Void nothing) {
        boolean toArray = arrayFields.contains(ownName(tree.getVariable()));
        Check.that("rule 4: no method assigns to an array field: " + tree, !toArray || method.equals("<init>"));
        return super.visitAssignment(tree, nothing);
    }

    @Override
    public Void visitMemberSelect(MemberSelectTree tree, Void nothing) {
        boolean own = tree.getExpression().toString().equals("this") || tree.getIdentifier().contentEquals("length");
        Check.that("rule 3: nothing of another class: " + tree, own);
        return super.visitMemberSelect(tree, nothing);
    }

    @Override
    public Void visitMethodInvocation(MethodInvocationTree tree, Void nothing) {
        calls.get(method).add(ownName(tree.getMethodSelect()));
        for (ExpressionTree argument : tree.getArguments()) {
            Boolean inside = new CallFinder().scan(argument, null);
            Check.that("rule 10: no call inside the arguments of another: " + tree, inside == null);
        }
        return super.visitMethodInvocation(tree, nothing);
    }

    private static final class CallFinder extends TreeScanner<Boolean, Void> {
        @Override
        public Boolean visitMethodInvocation(MethodInvocationTree tree, Void nothing) {
            return true;
        }

        @Override
        public Boolean reduce(Boolean one, Boolean other) {
            return one != null ? one : other;
        }
    }
}
