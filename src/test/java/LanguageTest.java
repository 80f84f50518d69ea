import com.sun.source.tree.ArrayTypeTree;
import com.sun.source.tree.AssertTree;
import com.sun.source.tree.AssignmentTree;
import com.sun.source.tree.BinaryTree;
import com.sun.source.tree.ClassTree;
import com.sun.source.tree.CompilationUnitTree;
import com.sun.source.tree.ExpressionStatementTree;
import com.sun.source.tree.ExpressionTree;
import com.sun.source.tree.IdentifierTree;
import com.sun.source.tree.InstanceOfTree;
import com.sun.source.tree.LambdaExpressionTree;
import com.sun.source.tree.LineMap;
import com.sun.source.tree.LiteralTree;
import com.sun.source.tree.MemberReferenceTree;
import com.sun.source.tree.MemberSelectTree;
import com.sun.source.tree.MethodInvocationTree;
import com.sun.source.tree.MethodTree;
import com.sun.source.tree.NewArrayTree;
import com.sun.source.tree.NewClassTree;
import com.sun.source.tree.PrimitiveTypeTree;
import com.sun.source.tree.SynchronizedTree;
import com.sun.source.tree.ThrowTree;
import com.sun.source.tree.Tree;
import com.sun.source.tree.TryTree;
import com.sun.source.tree.TypeCastTree;
import com.sun.source.tree.VariableTree;
import com.sun.source.util.JavacTask;
import com.sun.source.util.SourcePositions;
import com.sun.source.util.TreeScanner;
import com.sun.source.util.Trees;
import java.io.File;
import java.io.IOException;
import java.util.ArrayList;
import java.util.HashSet;
import java.util.List;
import java.util.Map;
import java.util.Set;
import java.util.TreeMap;
import java.util.TreeSet;
import javax.lang.model.element.Modifier;
import javax.lang.model.type.TypeKind;
import javax.tools.JavaCompiler;
import javax.tools.StandardJavaFileManager;
import javax.tools.ToolProvider;

/**
 * Rules 1 to 6, 8 and 10 of LANGUAGE.md, on the source text; FaceTest has what the compiled
 * class shows. Left to the reader: rule 7, the ends of loops (rule 8), and of rule 4 local
 * names of arrays, the order in the constructor and a length's being 1 or more.
 */
public final class LanguageTest {
    private static final File SOURCE = new File("src/main/java/RateMonoKernel.java");
    private static final Set<TypeKind> ALLOWED = Set.of(TypeKind.INT, TypeKind.LONG, TypeKind.SHORT,
        TypeKind.BYTE, TypeKind.CHAR, TypeKind.BOOLEAN, TypeKind.VOID);
    /** The rules say "some sixty" and leave a little room. */
    private static final int MOST_LINES = 65;
    private static final int DEEPEST = 6;

    private static CompilationUnitTree unit;
    private static ClassTree type;
    private static SourcePositions positions;
    private static final List<MethodTree> METHODS = new ArrayList<>();
    /** The names of the methods, each with the names that it calls. */
    private static final Map<String, Set<String>> CALLS = new TreeMap<>();
    private static final Set<String> ARRAY_FIELDS = new HashSet<>();
    private static final Set<String> CONSTANTS = new HashSet<>();

    public static void main(String[] args) throws IOException {
        parse();
        oneClass();
        collectMembers();
        new Rules().scan(type, null);
        arrays();
        methodsAreShort();
        callsAreNotDeep();
        Check.end();
    }

    private static void parse() throws IOException {
        JavaCompiler compiler = ToolProvider.getSystemJavaCompiler();
        try (StandardJavaFileManager files = compiler.getStandardFileManager(null, null, null)) {
            JavacTask task = (JavacTask) compiler.getTask(null, files, null, null, null, files.getJavaFileObjects(SOURCE));
            unit = task.parse().iterator().next();
            positions = Trees.instance(task).getSourcePositions();
        }
    }

    private static long lineOf(long position) {
        LineMap lines = unit.getLineMap();
        return lines.getLineNumber(position);
    }

    private static long firstLine(Tree tree) {
        return lineOf(positions.getStartPosition(unit, tree));
    }

    private static void holds(int rule, String what, Tree where, boolean does) {
        Check.due("LANGUAGE.md, rule " + rule + ": " + what + " (line " + firstLine(where) + ")", does, true);
    }

    private static void oneClass() {
        Check.due("LANGUAGE.md, rule 1: a package line", unit.getPackage() != null, false);
        Check.due("LANGUAGE.md, rule 3: imports", unit.getImports().size(), 0);
        Check.due("LANGUAGE.md, rule 1: classes in the file", unit.getTypeDecls().size(), 1);
        type = (ClassTree) unit.getTypeDecls().get(0);
        Check.dueText("the class", type.getSimpleName().toString(), "RateMonoKernel");
        Check.due("LANGUAGE.md, rule 3: another class it extends", type.getExtendsClause() != null, false);
        Check.due("LANGUAGE.md, rule 3: interfaces", type.getImplementsClause().size(), 0);
    }

    private static void collectMembers() {
        for (Tree member : type.getMembers()) {
            holds(1, "a member is a field or a method", member, member instanceof VariableTree || member instanceof MethodTree);
            if (member instanceof VariableTree) {
                collectField((VariableTree) member);
            } else if (member instanceof MethodTree) {
                collectMethod((MethodTree) member);
            }
        }
    }

    private static void collectField(VariableTree field) {
        if (field.getType() instanceof ArrayTypeTree) {
            ARRAY_FIELDS.add(field.getName().toString());
        }
        if (field.getModifiers().getFlags().contains(Modifier.STATIC)) {
            CONSTANTS.add(field.getName().toString());
            boolean constant = field.getInitializer() != null && field.getModifiers().getFlags().contains(Modifier.FINAL);
            holds(5, "a static field is a constant", field, constant && field.getType() instanceof PrimitiveTypeTree);
        }
    }

    private static void collectMethod(MethodTree method) {
        METHODS.add(method);
        Set<String> called = CALLS.computeIfAbsent(method.getName().toString(), name -> new TreeSet<>());
        new TreeScanner<Void, Void>() {
            @Override
            public Void visitMethodInvocation(MethodInvocationTree tree, Void v) {
                called.add(calledName(tree));
                return super.visitMethodInvocation(tree, v);
            }
        }.scan(method, null);
    }

    /** What may stand nowhere in the class. */
    private static final class Rules extends TreeScanner<Void, Void> {
        private int arguments = 0;

        @Override
        public Void visitVariable(VariableTree tree, Void v) {
            holds(2, "a variable holds numbers", tree, isNumbers(tree.getType()));
            return super.visitVariable(tree, v);
        }

        @Override
        public Void visitMethod(MethodTree tree, Void v) {
            holds(4, "no array is answered", tree, isConstructor(tree) || tree.getReturnType() instanceof PrimitiveTypeTree);
            holds(6, "no throws clause", tree, tree.getThrows().isEmpty());
            return super.visitMethod(tree, v);
        }

        @Override
        public Void visitPrimitiveType(PrimitiveTypeTree tree, Void v) {
            holds(2, "an allowed type", tree, ALLOWED.contains(tree.getPrimitiveTypeKind()));
            return null;
        }

        @Override
        public Void visitLiteral(LiteralTree tree, Void v) {
            Set<Tree.Kind> allowed = Set.of(Tree.Kind.INT_LITERAL, Tree.Kind.LONG_LITERAL,
                Tree.Kind.CHAR_LITERAL, Tree.Kind.BOOLEAN_LITERAL);
            holds(2, "a literal is a number", tree, allowed.contains(tree.getKind()));
            return null;
        }

        @Override
        public Void visitMemberSelect(MemberSelectTree tree, Void v) {
            // Whatever else has a dot belongs to another class.
            boolean ofThis = tree.getExpression().toString().equals("this");
            boolean ofTheClass = tree.getExpression().toString().equals("RateMonoKernel");
            boolean length = tree.getIdentifier().contentEquals("length");
            holds(3, "no class of the library", tree, ofThis || ofTheClass || length);
            return super.visitMemberSelect(tree, v);
        }

        @Override
        public Void visitMethodInvocation(MethodInvocationTree tree, Void v) {
            holds(3, "a call is of a method of the class", tree, CALLS.containsKey(calledName(tree)));
            holds(10, "no call inside the arguments of another", tree, arguments == 0);
            scan(tree.getMethodSelect(), v);
            arguments++;
            scan(tree.getArguments(), v);
            arguments--;
            return null;
        }

        @Override
        public Void visitBinary(BinaryTree tree, Void v) {
            boolean equality = tree.getKind() == Tree.Kind.EQUAL_TO || tree.getKind() == Tree.Kind.NOT_EQUAL_TO;
            boolean array = isArrayField(tree.getLeftOperand()) || isArrayField(tree.getRightOperand());
            holds(4, "no array is compared", tree, !(equality && array));
            return super.visitBinary(tree, v);
        }

        @Override
        public Void visitTypeCast(TypeCastTree tree, Void v) {
            holds(6, "a cast is between number types", tree, tree.getType() instanceof PrimitiveTypeTree);
            return super.visitTypeCast(tree, v);
        }

        @Override
        public Void visitNewClass(NewClassTree tree, Void v) {
            holds(4, "no object is made", tree, false);
            return super.visitNewClass(tree, v);
        }

        @Override
        public Void visitThrow(ThrowTree tree, Void v) {
            holds(6, "no throw", tree, false);
            return super.visitThrow(tree, v);
        }

        @Override
        public Void visitTry(TryTree tree, Void v) {
            holds(6, "no try", tree, false);
            return super.visitTry(tree, v);
        }

        @Override
        public Void visitSynchronized(SynchronizedTree tree, Void v) {
            holds(6, "no synchronized", tree, false);
            return super.visitSynchronized(tree, v);
        }

        @Override
        public Void visitAssert(AssertTree tree, Void v) {
            holds(6, "no assert", tree, false);
            return super.visitAssert(tree, v);
        }

        @Override
        public Void visitInstanceOf(InstanceOfTree tree, Void v) {
            holds(6, "no instanceof", tree, false);
            return super.visitInstanceOf(tree, v);
        }

        @Override
        public Void visitLambdaExpression(LambdaExpressionTree tree, Void v) {
            holds(6, "no lambda", tree, false);
            return super.visitLambdaExpression(tree, v);
        }

        @Override
        public Void visitMemberReference(MemberReferenceTree tree, Void v) {
            holds(6, "no method reference", tree, false);
            return super.visitMemberReference(tree, v);
        }
    }

    private static boolean isNumbers(Tree tree) {
        Tree held = tree instanceof ArrayTypeTree ? ((ArrayTypeTree) tree).getType() : tree;
        return held instanceof PrimitiveTypeTree;
    }

    private static boolean isArrayField(ExpressionTree tree) {
        String text = tree.toString();
        return ARRAY_FIELDS.contains(text.startsWith("this.") ? text.substring(5) : text);
    }

    private static String calledName(MethodInvocationTree call) {
        ExpressionTree called = call.getMethodSelect();
        if (called instanceof IdentifierTree) {
            return ((IdentifierTree) called).getName().toString();
        }
        return ((MemberSelectTree) called).getIdentifier().toString();
    }

    private static void arrays() {
        Set<Tree> places = placesForArrays();
        new TreeScanner<Void, Void>() {
            @Override
            public Void visitNewArray(NewArrayTree tree, Void v) {
                holds(4, "an array is made at the start", tree, places.contains(tree));
                boolean oneLength = tree.getInitializers() == null && tree.getDimensions().size() == 1;
                holds(4, "an array has one length", tree, oneLength);
                holds(4, "the length is a constant", tree, oneLength && isConstant(tree.getDimensions().get(0)));
                return super.visitNewArray(tree, v);
            }
        }.scan(type, null);
        for (MethodTree method : METHODS) {
            if (!isConstructor(method)) {
                assignsNoArray(method);
            }
        }
    }

    /** Fields' initialisers, and the constructor's own lines: not in a loop and not behind a condition. */
    private static Set<Tree> placesForArrays() {
        Set<Tree> places = new HashSet<>();
        for (Tree member : type.getMembers()) {
            if (member instanceof VariableTree) {
                places.add(((VariableTree) member).getInitializer());
            }
        }
        for (MethodTree method : METHODS) {
            if (isConstructor(method)) {
                method.getBody().getStatements().forEach(line -> addAssigned(line, places));
            }
        }
        return places;
    }

    private static void addAssigned(Tree line, Set<Tree> places) {
        if (line instanceof ExpressionStatementTree) {
            ExpressionTree inner = ((ExpressionStatementTree) line).getExpression();
            if (inner instanceof AssignmentTree) {
                places.add(((AssignmentTree) inner).getExpression());
            }
        }
    }

    private static boolean isConstructor(MethodTree method) {
        return method.getReturnType() == null;
    }

    private static boolean isConstant(ExpressionTree length) {
        return length instanceof LiteralTree || CONSTANTS.contains(length.toString());
    }

    private static void assignsNoArray(MethodTree method) {
        new TreeScanner<Void, Void>() {
            @Override
            public Void visitAssignment(AssignmentTree tree, Void v) {
                holds(4, "no method assigns to an array field", tree, !isArrayField(tree.getVariable()));
                return super.visitAssignment(tree, v);
            }
        }.scan(method, null);
    }

    private static void methodsAreShort() {
        for (MethodTree method : METHODS) {
            long lines = lineOf(positions.getEndPosition(unit, method)) - firstLine(method) + 1;
            holds(10, method.getName() + " is short, and has " + lines + " lines", method, lines <= MOST_LINES);
        }
    }

    private static void callsAreNotDeep() {
        for (MethodTree method : METHODS) {
            int deep = depth(method.getName().toString());
            holds(8, method.getName() + " is not recursive", method, deep <= CALLS.size());
            holds(10, method.getName() + " calls " + deep + " deep", method, deep <= DEEPEST);
        }
    }

    /** How many methods stand on each other; more than there are tells a recursion. */
    private static int depth(String name) {
        Set<String> level = Set.of(name);
        int deep = 0;
        while (!level.isEmpty() && deep <= CALLS.size()) {
            Set<String> next = new TreeSet<>();
            for (String caller : level) {
                next.addAll(CALLS.getOrDefault(caller, Set.of()));
            }
            level = next;
            deep++;
        }
        return deep;
    }
}
