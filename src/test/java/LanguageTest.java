import com.sun.source.tree.ArrayTypeTree;
import com.sun.source.tree.AssignmentTree;
import com.sun.source.tree.BinaryTree;
import com.sun.source.tree.BlockTree;
import com.sun.source.tree.ClassTree;
import com.sun.source.tree.CompilationUnitTree;
import com.sun.source.tree.CompoundAssignmentTree;
import com.sun.source.tree.ExpressionTree;
import com.sun.source.tree.ForLoopTree;
import com.sun.source.tree.IdentifierTree;
import com.sun.source.tree.LiteralTree;
import com.sun.source.tree.MethodInvocationTree;
import com.sun.source.tree.MethodTree;
import com.sun.source.tree.NewArrayTree;
import com.sun.source.tree.PrimitiveTypeTree;
import com.sun.source.tree.Tree;
import com.sun.source.tree.TypeCastTree;
import com.sun.source.tree.UnaryTree;
import com.sun.source.tree.VariableTree;
import com.sun.source.util.JavacTask;
import com.sun.source.util.SourcePositions;
import com.sun.source.util.TreeScanner;
import com.sun.source.util.Trees;
import java.io.File;
import java.io.IOException;
import java.util.EnumSet;
import java.util.HashMap;
import java.util.HashSet;
import java.util.List;
import java.util.Map;
import java.util.Set;
import java.util.TreeSet;
import javax.lang.model.element.Modifier;
import javax.lang.model.type.TypeKind;
import javax.tools.JavaCompiler;
import javax.tools.StandardJavaFileManager;
import javax.tools.ToolProvider;

/**
 * The rules of LANGUAGE.md, looked for in the source's own tree. Where a rule leaves room that the
 * class doesn't use, the test asks for the narrower form: it can be told for sure from the tree.
 */
public final class LanguageTest {
    private static final File SOURCE = new File("src/main/java/MultiwordSwap.java");

    private static final Set<Tree.Kind> FORBIDDEN = EnumSet.of(
        Tree.Kind.THROW, Tree.Kind.TRY, Tree.Kind.CATCH, Tree.Kind.SYNCHRONIZED, Tree.Kind.ASSERT,
        Tree.Kind.INSTANCE_OF, Tree.Kind.LAMBDA_EXPRESSION, Tree.Kind.MEMBER_REFERENCE, Tree.Kind.NEW_CLASS,
        Tree.Kind.MEMBER_SELECT, Tree.Kind.PARAMETERIZED_TYPE, Tree.Kind.ANNOTATION, Tree.Kind.ENHANCED_FOR_LOOP,
        Tree.Kind.WHILE_LOOP, Tree.Kind.DO_WHILE_LOOP, Tree.Kind.DIVIDE, Tree.Kind.REMAINDER,
        Tree.Kind.DIVIDE_ASSIGNMENT, Tree.Kind.REMAINDER_ASSIGNMENT, Tree.Kind.STRING_LITERAL,
        Tree.Kind.NULL_LITERAL, Tree.Kind.FLOAT_LITERAL, Tree.Kind.DOUBLE_LITERAL,
        Tree.Kind.INTERFACE, Tree.Kind.ENUM, Tree.Kind.RECORD, Tree.Kind.ANNOTATION_TYPE);

    private static CompilationUnitTree unit;
    private static ClassTree theClass;
    private static SourcePositions positions;

    public static void main(String[] args) throws IOException {
        parse();
        oneClassInOneFile();
        noForbiddenTree();
        onlyOwnNames();
        onlyNumberTypes();
        arraysAreMadeInFields();
        fields();
        loopsCount();
        methodsAreSmall();
        noCallInsideACallsArguments();
        callsGoAtMostSixDeep();
        Check.end();
    }

    private static void parse() throws IOException {
        JavaCompiler compiler = ToolProvider.getSystemJavaCompiler();
        try (StandardJavaFileManager files = compiler.getStandardFileManager(null, null, null)) {
            JavacTask task = (JavacTask) compiler.getTask(null, files, null, null, null, files.getJavaFileObjects(SOURCE));
            unit = task.parse().iterator().next();
            positions = Trees.instance(task).getSourcePositions();
        }
        theClass = (ClassTree) unit.getTypeDecls().get(0);
    }

    private static void keeps(int rule, String what, boolean does) {
        Check.due("rule " + rule + ": " + what, does, true);
    }

    private static String at(Tree tree) {
        long line = unit.getLineMap().getLineNumber(positions.getStartPosition(unit, tree));
        return "line " + line + ": " + tree.toString().lines().findFirst().orElse("");
    }

    private static void oneClassInOneFile() {
        keeps(1, "one file", SOURCE.getParentFile().list().length == 1);
        keeps(1, "no package line", unit.getPackage() == null);
        keeps(3, "nothing imported", unit.getImports().isEmpty());
        keeps(1, "one class", unit.getTypeDecls().size() == 1);
        keeps(1, "it extends and implements nothing",
            theClass.getExtendsClause() == null && theClass.getImplementsClause().isEmpty());
        for (Tree member : theClass.getMembers()) {
            keeps(1, "no nested class, " + at(member), !(member instanceof ClassTree));
            keeps(5, "no initialiser block, " + at(member), !(member instanceof BlockTree));
        }
    }

    private static void noForbiddenTree() {
        new TreeScanner<Void, Void>() {
            @Override
            public Void scan(Tree tree, Void nothing) {
                if (tree != null && FORBIDDEN.contains(tree.getKind())) {
                    Check.due("what the rules leave out: " + tree.getKind() + ", " + at(tree), 1, 0);
                }
                return super.scan(tree, nothing);
            }

            @Override
            public Void visitTypeCast(TypeCastTree cast, Void nothing) {
                keeps(6, "casts between number types, " + at(cast), cast.getType() instanceof PrimitiveTypeTree);
                return super.visitTypeCast(cast, nothing);
            }
        }.scan(unit, null);
    }

    /** A class of the library would show as a name that the class doesn't declare. */
    private static void onlyOwnNames() {
        Set<String> own = new HashSet<>();
        new TreeScanner<Void, Void>() {
            @Override
            public Void visitVariable(VariableTree variable, Void nothing) {
                own.add(variable.getName().toString());
                return super.visitVariable(variable, nothing);
            }

            @Override
            public Void visitMethod(MethodTree method, Void nothing) {
                own.add(method.getName().toString());
                return super.visitMethod(method, nothing);
            }
        }.scan(theClass, null);
        new TreeScanner<Void, Void>() {
            @Override
            public Void visitIdentifier(IdentifierTree name, Void nothing) {
                keeps(3, name + " is the class's own, " + at(name), own.contains(name.toString()));
                return null;
            }
        }.scan(theClass, null);
    }

    private static void onlyNumberTypes() {
        Set<TypeKind> allowed = EnumSet.of(TypeKind.INT, TypeKind.LONG, TypeKind.SHORT, TypeKind.BYTE, TypeKind.CHAR,
            TypeKind.BOOLEAN, TypeKind.VOID);
        new TreeScanner<Void, Void>() {
            @Override
            public Void visitPrimitiveType(PrimitiveTypeTree type, Void nothing) {
                keeps(2, type + " is allowed, " + at(type), allowed.contains(type.getPrimitiveTypeKind()));
                return null;
            }

            @Override
            public Void visitArrayType(ArrayTypeTree type, Void nothing) {
                keeps(2, type + " has one dimension, " + at(type), type.getType() instanceof PrimitiveTypeTree);
                return super.visitArrayType(type, nothing);
            }

            @Override
            public Void visitVariable(VariableTree variable, Void nothing) {
                keeps(2, "a type is written out, " + at(variable), isNumberOrArray(variable.getType()));
                return super.visitVariable(variable, nothing);
            }
        }.scan(theClass, null);
        for (MethodTree method : methods().values()) {
            keeps(4, method.getName() + " answers no array", !(method.getReturnType() instanceof ArrayTypeTree));
        }
    }

    private static boolean isNumberOrArray(Tree type) {
        return type instanceof PrimitiveTypeTree || type instanceof ArrayTypeTree;
    }

    private static void arraysAreMadeInFields() {
        Set<Tree> inFields = new HashSet<>();
        for (VariableTree field : fieldsOfTheClass()) {
            if (field.getType() instanceof ArrayTypeTree) {
                keeps(4, field.getName() + " is made once", field.getModifiers().getFlags().contains(Modifier.FINAL)
                    && field.getInitializer() instanceof NewArrayTree);
                inFields.add(field.getInitializer());
            }
        }
        new TreeScanner<Void, Void>() {
            @Override
            public Void visitNewArray(NewArrayTree made, Void nothing) {
                keeps(4, "arrays are made in fields, " + at(made), inFields.contains(made));
                keeps(4, "with one length, " + at(made), made.getDimensions().size() == 1);
                for (ExpressionTree length : made.getDimensions()) {
                    keeps(4, "that is a constant, " + at(made), isConstant(length));
                }
                return super.visitNewArray(made, nothing);
            }
        }.scan(theClass, null);
    }

    private static boolean isConstant(ExpressionTree length) {
        if (length instanceof LiteralTree) {
            return true;
        }
        for (VariableTree field : fieldsOfTheClass()) {
            if (isStatic(field) && field.getName().contentEquals(length.toString())) {
                return true;
            }
        }
        return false;
    }

    private static List<VariableTree> fieldsOfTheClass() {
        return theClass.getMembers().stream().filter(VariableTree.class::isInstance).map(VariableTree.class::cast).toList();
    }

    private static boolean isStatic(VariableTree field) {
        return field.getModifiers().getFlags().contains(Modifier.STATIC);
    }

    private static void fields() {
        int others = 0;
        for (VariableTree field : fieldsOfTheClass()) {
            if (!isStatic(field)) {
                others++;
                continue;
            }
            String type = field.getType().toString();
            keeps(5, field.getName() + " is an int or a long", type.equals("int") || type.equals("long"));
            keeps(5, field.getName() + " is final", field.getModifiers().getFlags().contains(Modifier.FINAL));
            keeps(5, field.getName() + " has its number", field.getInitializer() != null
                && callsIn(field.getInitializer()).isEmpty());
        }
        keeps(10, "at most forty fields", others <= 40);
    }

    /** for (int i = ..; i < bound; i++), where nothing else changes i, and nothing in the method changes bound. */
    private static void loopsCount() {
        for (MethodTree method : methods().values()) {
            Map<String, Integer> changes = changesIn(method);
            new TreeScanner<Void, Void>() {
                @Override
                public Void visitForLoop(ForLoopTree loop, Void nothing) {
                    boolean less = loop.getCondition() != null && loop.getCondition().getKind() == Tree.Kind.LESS_THAN;
                    keeps(8, "a loop counts up to a bound, " + at(loop), less && loop.getInitializer().size() == 1
                        && loop.getUpdate().size() == 1 && isCounted(loop, changes));
                    return super.visitForLoop(loop, nothing);
                }
            }.scan(method, null);
        }
    }

    private static boolean isCounted(ForLoopTree loop, Map<String, Integer> changes) {
        BinaryTree condition = (BinaryTree) loop.getCondition();
        String counter = condition.getLeftOperand().toString();
        String bound = condition.getRightOperand().toString();
        boolean own = loop.getInitializer().get(0) instanceof VariableTree
            && ((VariableTree) loop.getInitializer().get(0)).getName().contentEquals(counter);
        boolean up = loop.getUpdate().get(0).toString().equals(counter + "++;");
        // Counters of loops that follow one another may share a name; each brings its own change.
        boolean once = changesIn(loop).getOrDefault(counter, 0) == 1;
        boolean fixed = condition.getRightOperand() instanceof IdentifierTree && !changes.containsKey(bound);
        return own && up && once && fixed;
    }

    /** How often each name is given another value, not counting its first. */
    private static Map<String, Integer> changesIn(Tree tree) {
        Map<String, Integer> changes = new HashMap<>();
        new TreeScanner<Void, Void>() {
            @Override
            public Void visitAssignment(AssignmentTree change, Void nothing) {
                changes.merge(change.getVariable().toString(), 1, Integer::sum);
                return super.visitAssignment(change, nothing);
            }

            @Override
            public Void visitCompoundAssignment(CompoundAssignmentTree change, Void nothing) {
                changes.merge(change.getVariable().toString(), 1, Integer::sum);
                return super.visitCompoundAssignment(change, nothing);
            }

            @Override
            public Void visitUnary(UnaryTree change, Void nothing) {
                if (change.toString().contains("++") || change.toString().contains("--")) {
                    changes.merge(change.getExpression().toString(), 1, Integer::sum);
                }
                return super.visitUnary(change, nothing);
            }
        }.scan(tree, null);
        return changes;
    }

    private static Map<String, MethodTree> methods() {
        Map<String, MethodTree> all = new HashMap<>();
        for (Tree member : theClass.getMembers()) {
            if (member instanceof MethodTree) {
                MethodTree method = (MethodTree) member;
                keeps(1, method.getName() + " is there once", all.put(method.getName().toString(), method) == null);
            }
        }
        return all;
    }

    private static void methodsAreSmall() {
        for (MethodTree method : methods().values()) {
            long first = unit.getLineMap().getLineNumber(positions.getStartPosition(unit, method));
            long last = unit.getLineMap().getLineNumber(positions.getEndPosition(unit, method));
            keeps(10, method.getName() + " has at most sixty lines", last - first < 60);
            keeps(10, method.getName() + " takes at most seven parameters", method.getParameters().size() <= 7);
            keeps(6, method.getName() + " throws nothing", method.getThrows().isEmpty());
        }
    }

    private static Set<String> callsIn(Tree tree) {
        Set<String> called = new TreeSet<>();
        new TreeScanner<Void, Void>() {
            @Override
            public Void visitMethodInvocation(MethodInvocationTree call, Void nothing) {
                called.add(call.getMethodSelect().toString());
                return super.visitMethodInvocation(call, nothing);
            }
        }.scan(tree, null);
        return called;
    }

    private static void noCallInsideACallsArguments() {
        new TreeScanner<Void, Void>() {
            @Override
            public Void visitMethodInvocation(MethodInvocationTree call, Void nothing) {
                for (ExpressionTree argument : call.getArguments()) {
                    keeps(10, "no call inside the arguments, " + at(call), callsIn(argument).isEmpty());
                }
                return super.visitMethodInvocation(call, nothing);
            }
        }.scan(theClass, null);
    }

    private static void callsGoAtMostSixDeep() {
        Map<String, MethodTree> all = methods();
        Set<String> reached = new TreeSet<>(all.keySet());
        // With every method as a start, what is left after six steps is called seven deep or calls itself.
        for (int depth = 0; depth < 6; depth++) {
            Set<String> next = new TreeSet<>();
            for (String name : reached) {
                next.addAll(callsIn(all.get(name).getBody()));
            }
            next.retainAll(all.keySet());
            reached = next;
        }
        keeps(10, "at most six deep, and (rule 8) no recursion: " + reached, reached.isEmpty());
    }
}
