import com.sun.source.tree.ArrayTypeTree;
import com.sun.source.tree.AssignmentTree;
import com.sun.source.tree.BinaryTree;
import com.sun.source.tree.ClassTree;
import com.sun.source.tree.CompilationUnitTree;
import com.sun.source.tree.CompoundAssignmentTree;
import com.sun.source.tree.ForLoopTree;
import com.sun.source.tree.IdentifierTree;
import com.sun.source.tree.LiteralTree;
import com.sun.source.tree.MemberSelectTree;
import com.sun.source.tree.MethodInvocationTree;
import com.sun.source.tree.MethodTree;
import com.sun.source.tree.NewArrayTree;
import com.sun.source.tree.PrimitiveTypeTree;
import com.sun.source.tree.Tree;
import com.sun.source.tree.UnaryTree;
import com.sun.source.tree.VariableTree;
import com.sun.source.util.JavacTask;
import com.sun.source.util.TreeScanner;
import com.sun.source.util.Trees;
import java.io.File;
import java.io.IOException;
import java.util.EnumSet;
import java.util.HashSet;
import java.util.List;
import java.util.Map;
import java.util.Set;
import java.util.TreeMap;
import java.util.TreeSet;
import javax.lang.model.element.Modifier;
import javax.lang.model.type.TypeKind;
import javax.tools.JavaCompiler;
import javax.tools.StandardJavaFileManager;
import javax.tools.ToolProvider;

/** The rules of LANGUAGE.md that can be read off the source: 1 to 6, and 8 and 10 as far as names tell. */
public final class LanguageTest {
    private static final String SOURCE = "src/main/java/ListHeaps.java";
    private static final Set<TypeKind> TYPES = EnumSet.of(TypeKind.INT, TypeKind.LONG, TypeKind.SHORT,
        TypeKind.BYTE, TypeKind.CHAR, TypeKind.BOOLEAN);
    private static final Set<Tree.Kind> NEVER = EnumSet.of(Tree.Kind.IMPORT, Tree.Kind.PACKAGE,
        Tree.Kind.INTERFACE, Tree.Kind.ENUM, Tree.Kind.RECORD, Tree.Kind.ANNOTATION_TYPE,
        Tree.Kind.NEW_CLASS, Tree.Kind.THROW, Tree.Kind.TRY, Tree.Kind.SYNCHRONIZED, Tree.Kind.ASSERT,
        Tree.Kind.INSTANCE_OF, Tree.Kind.LAMBDA_EXPRESSION, Tree.Kind.MEMBER_REFERENCE,
        Tree.Kind.STRING_LITERAL, Tree.Kind.NULL_LITERAL, Tree.Kind.FLOAT_LITERAL,
        Tree.Kind.DOUBLE_LITERAL);
    // Rule 9 leaves while and do, but the end of a for that counts is the easiest to see (rule 8).
    private static final Set<Tree.Kind> OTHER_LOOPS = EnumSet.of(Tree.Kind.WHILE_LOOP,
        Tree.Kind.DO_WHILE_LOOP, Tree.Kind.ENHANCED_FOR_LOOP);
    private static final Set<Tree.Kind> STEPS = EnumSet.of(Tree.Kind.POSTFIX_INCREMENT,
        Tree.Kind.POSTFIX_DECREMENT);
    private static final Set<Tree.Kind> BOUNDS = EnumSet.of(Tree.Kind.LESS_THAN, Tree.Kind.GREATER_THAN);

    private static final Set<String> arrayFields = new HashSet<>();
    private static final Set<String> constants = new HashSet<>();
    private static final Map<String, Set<String>> calls = new TreeMap<>();
    private static CompilationUnitTree unit;
    private static Trees trees;

    public static void main(String[] args) throws IOException {
        JavaCompiler compiler = ToolProvider.getSystemJavaCompiler();
        try (StandardJavaFileManager files = compiler.getStandardFileManager(null, null, null)) {
            JavacTask task = (JavacTask) compiler.getTask(null, files, null, null, null,
                files.getJavaFileObjects(new File(SOURCE)));
            trees = Trees.instance(task);
            unit = task.parse().iterator().next();
        }
        Due.is("types in the file", unit.getTypeDecls().size(), 1);
        ClassTree theClass = (ClassTree) unit.getTypeDecls().get(0);
        new NeverScanner().scan(unit, null);
        checkFields(theClass);
        checkMethods(theClass);
        checkCalls();
        Due.end();
    }

    private static String at(Tree tree) {
        long start = trees.getSourcePositions().getStartPosition(unit, tree);
        return "line " + unit.getLineMap().getLineNumber(start);
    }

    private static long lines(Tree tree) {
        long start = trees.getSourcePositions().getStartPosition(unit, tree);
        long end = trees.getSourcePositions().getEndPosition(unit, tree);
        return unit.getLineMap().getLineNumber(end) - unit.getLineMap().getLineNumber(start) + 1;
    }

    /** Rules 2, 3, 6 and 8: what stands nowhere in the file, and its loops. */
    private static final class NeverScanner extends TreeScanner<Void, Void> {
        @Override
        public Void scan(Tree tree, Void nothing) {
            if (tree != null) {
                Due.is(at(tree) + " is a " + tree.getKind(),
                    NEVER.contains(tree.getKind()) || OTHER_LOOPS.contains(tree.getKind()), false);
            }
            return super.scan(tree, nothing);
        }

        @Override
        public Void visitVariable(VariableTree variable, Void nothing) {
            checkType(variable.getType());
            return super.visitVariable(variable, nothing);
        }

        @Override
        public Void visitForLoop(ForLoopTree loop, Void nothing) {
            Due.is(at(loop) + " counts to a bound", countsToBound(loop), true);
            return super.visitForLoop(loop, nothing);
        }

        @Override
        public Void visitMemberSelect(MemberSelectTree select, Void nothing) {
            Due.is(at(select) + " " + select, select.getIdentifier().contentEquals("length"), true);
            return super.visitMemberSelect(select, nothing);
        }
    }

    private static void checkType(Tree type) {
        Tree base = type instanceof ArrayTypeTree array ? array.getType() : type;
        boolean right = base instanceof PrimitiveTypeTree primitive
            && TYPES.contains(primitive.getPrimitiveTypeKind());
        Due.is(at(type) + ": type " + type, right, true);
    }

    private static boolean countsToBound(ForLoopTree loop) {
        if (loop.getInitializer().size() != 1 || loop.getUpdate().size() != 1
                || !(loop.getInitializer().get(0) instanceof VariableTree counter)
                || !(loop.getUpdate().get(0).getExpression() instanceof UnaryTree step)) {
            return false;
        }
        Tree condition = loop.getCondition();
        // A bound that stands first in a row of && ends the loop, whatever the others say.
        while (condition instanceof BinaryTree row && row.getKind() == Tree.Kind.CONDITIONAL_AND) {
            condition = row.getLeftOperand();
        }
        String name = counter.getName().toString();
        return STEPS.contains(step.getKind()) && step.getExpression().toString().equals(name)
            && condition instanceof BinaryTree bound && BOUNDS.contains(bound.getKind())
            && bound.getLeftOperand().toString().equals(name)
            && (step.getKind() == Tree.Kind.POSTFIX_INCREMENT) == (bound.getKind() == Tree.Kind.LESS_THAN)
            && !changes(loop.getStatement(), name);
    }

    private static boolean changes(Tree body, String name) {
        boolean[] found = new boolean[1];
        new TreeScanner<Void, Void>() {
            @Override
            public Void visitAssignment(AssignmentTree change, Void nothing) {
                found[0] |= change.getVariable().toString().equals(name);
                return super.visitAssignment(change, nothing);
            }

            @Override
            public Void visitCompoundAssignment(CompoundAssignmentTree change, Void nothing) {
                found[0] |= change.getVariable().toString().equals(name);
                return super.visitCompoundAssignment(change, nothing);
            }

            @Override
            public Void visitUnary(UnaryTree change, Void nothing) {
                found[0] |= change.getExpression().toString().equals(name)
                    && change.getKind().toString().matches("(POST|PRE)FIX_.*");
                return super.visitUnary(change, nothing);
            }
        }.scan(body, null);
        return found[0];
    }

    /** Rules 4, 5 and 10: fields, and how their arrays are made. */
    private static void checkFields(ClassTree theClass) {
        int fields = 0;
        for (Tree member : theClass.getMembers()) {
            if (member instanceof VariableTree field) {
                boolean isArray = field.getType() instanceof ArrayTypeTree;
                if (field.getModifiers().getFlags().contains(Modifier.STATIC)) {
                    Due.is(field + " is a constant", isConstant(field), true);
                    constants.add(field.getName().toString());
                } else {
                    fields++;
                    arrayFields.addAll(isArray ? List.of(field.getName().toString()) : List.of());
                    Due.is(field + " has an array of its own",
                        !isArray || isArrayOfConstantLength(field.getInitializer()), true);
                }
            }
            Due.is(at(member) + " is no class and no initialiser",
                member instanceof VariableTree || member instanceof MethodTree, true);
        }
        Due.is("fields: " + fields, fields <= 40, true);
    }

    private static boolean isConstant(VariableTree field) {
        boolean isNumber = field.getType() instanceof PrimitiveTypeTree type
            && (type.getPrimitiveTypeKind() == TypeKind.INT || type.getPrimitiveTypeKind() == TypeKind.LONG);
        boolean isLiteral = field.getInitializer() instanceof LiteralTree
            || field.getInitializer() instanceof UnaryTree sign && sign.getExpression() instanceof LiteralTree;
        return isNumber && isLiteral && field.getModifiers().getFlags().contains(Modifier.FINAL);
    }

    // The constants stand before the arrays in the file, so that they are known here.
    private static boolean isArrayOfConstantLength(Tree initializer) {
        return initializer instanceof NewArrayTree made && made.getInitializers() == null
            && made.getDimensions().size() == 1 && (made.getDimensions().get(0) instanceof LiteralTree
            || constants.contains(made.getDimensions().get(0).toString()));
    }

    /** Rules 1, 4 and 10: names, lengths and parameters of methods, and no array made in one. */
    private static void checkMethods(ClassTree theClass) {
        Set<String> names = new TreeSet<>();
        for (Tree member : theClass.getMembers()) {
            if (member instanceof MethodTree method) {
                String name = method.getName().toString();
                Due.is(name + " is there once", names.add(name), true);
                Due.is(name + " has parameters", method.getParameters().size() <= 7, true);
                Due.is(name + " is short", lines(method) <= 60, true);
                calls.put(name, new TreeSet<>());
                new BodyScanner(name).scan(method.getBody(), null);
                if (method.getReturnType() != null && !method.getReturnType().toString().equals("void")) {
                    checkType(method.getReturnType());
                    Due.is(name + " answers no array", method.getReturnType() instanceof ArrayTypeTree, false);
                }
            }
        }
    }

    private static final class BodyScanner extends TreeScanner<Void, Void> {
        private final String method;
        private int insideArguments = 0;

        BodyScanner(String method) {
            this.method = method;
        }

        @Override
        public Void visitMethodInvocation(MethodInvocationTree call, Void nothing) {
            Due.is(at(call) + ": a call inside the arguments of another", insideArguments, 0);
            calls.get(method).add(call.getMethodSelect().toString());
            insideArguments++;
            scan(call.getArguments(), nothing);
            insideArguments--;
            return null;
        }

        @Override
        public Void visitNewArray(NewArrayTree made, Void nothing) {
            Due.is(at(made) + ": an array made in " + method, false, true);
            return null;
        }

        @Override
        public Void visitAssignment(AssignmentTree assignment, Void nothing) {
            boolean toArray = assignment.getVariable() instanceof IdentifierTree name
                && arrayFields.contains(name.getName().toString());
            Due.is(at(assignment) + ": assigns to an array field", toArray, false);
            return super.visitAssignment(assignment, nothing);
        }
    }

    /** Rules 3, 8 and 10: the class calls its own methods alone, no recursion, at most six deep. */
    private static void checkCalls() {
        Map<String, Integer> depths = new TreeMap<>();
        // A method without recursion has its depth after as many rounds as there are methods.
        for (int round = 0; round <= calls.size(); round++) {
            for (Map.Entry<String, Set<String>> method : calls.entrySet()) {
                int depth = 1;
                boolean known = true;
                for (String called : method.getValue()) {
                    known &= depths.containsKey(called);
                    depth = Math.max(depth, 1 + depths.getOrDefault(called, 0));
                }
                if (known) {
                    depths.put(method.getKey(), depth);
                }
            }
        }
        for (String method : calls.keySet()) {
            // The empty super() of a constructor is the compiler's own.
            boolean ends = depths.containsKey(method) || calls.get(method).equals(Set.of("super"));
            Due.is(method + " calls itself or a strange method", ends, true);
            Due.is(method + " goes six deep at most", depths.getOrDefault(method, 1) <= 6, true);
        }
    }
}
