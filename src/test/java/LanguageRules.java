import com.sun.source.tree.ArrayTypeTree;
import com.sun.source.tree.AssignmentTree;
import com.sun.source.tree.BinaryTree;
import com.sun.source.tree.ClassTree;
import com.sun.source.tree.CompilationUnitTree;
import com.sun.source.tree.CompoundAssignmentTree;
import com.sun.source.tree.DoWhileLoopTree;
import com.sun.source.tree.ExpressionTree;
import com.sun.source.tree.ForLoopTree;
import com.sun.source.tree.IdentifierTree;
import com.sun.source.tree.MemberSelectTree;
import com.sun.source.tree.MethodInvocationTree;
import com.sun.source.tree.MethodTree;
import com.sun.source.tree.NewArrayTree;
import com.sun.source.tree.ParenthesizedTree;
import com.sun.source.tree.PrimitiveTypeTree;
import com.sun.source.tree.Tree;
import com.sun.source.tree.Tree.Kind;
import com.sun.source.tree.TypeCastTree;
import com.sun.source.tree.UnaryTree;
import com.sun.source.tree.VariableTree;
import com.sun.source.tree.WhileLoopTree;
import com.sun.source.util.JavacTask;
import com.sun.source.util.SourcePositions;
import com.sun.source.util.TreePathScanner;
import com.sun.source.util.TreeScanner;
import com.sun.source.util.Trees;
import java.io.File;
import java.io.IOException;
import java.util.ArrayList;
import java.util.EnumSet;
import java.util.HashMap;
import java.util.HashSet;
import java.util.List;
import java.util.Map;
import java.util.Set;
import java.util.TreeMap;
import java.util.TreeSet;
import javax.lang.model.element.Modifier;
import javax.lang.model.type.TypeKind;
import javax.tools.JavaCompiler;
import javax.tools.StandardJavaFileManager;
import javax.tools.ToolProvider;

/**
 * Those rules of LANGUAGE.md that the source shows and the compiled class does not; for
 * the others see FaceAndLanguage. Stricter than the rules here and there, where the class
 * does not need the freedom: each array field is final, each loop counts up to a bound,
 * nothing is divided.
 */
final class LanguageRules extends Check {
    private static final String SOURCE = "src/main/java/WaitFreeSnapshot.java";
    private static final int MOST_LINES_OF_A_METHOD = 60;
    private static final int MOST_CALLS_DEEP = 6;
    private static final int MOST_PARAMETERS = 7;

    private static final Set<Kind> FORBIDDEN = EnumSet.of(Kind.THROW, Kind.TRY, Kind.CATCH, Kind.SYNCHRONIZED,
            Kind.ASSERT, Kind.INSTANCE_OF, Kind.LAMBDA_EXPRESSION, Kind.MEMBER_REFERENCE);
    private static final Set<Kind> FOREIGN = EnumSet.of(Kind.STRING_LITERAL, Kind.FLOAT_LITERAL, Kind.DOUBLE_LITERAL,
            Kind.NULL_LITERAL, Kind.NEW_CLASS, Kind.PARAMETERIZED_TYPE, Kind.ANNOTATION);

    private static final Set<Kind> DIVIDING = EnumSet.of(Kind.DIVIDE, Kind.REMAINDER, Kind.DIVIDE_ASSIGNMENT,
            Kind.REMAINDER_ASSIGNMENT);

    private final Map<Integer, List<String>> offences = new TreeMap<>();
    private final Map<String, Set<String>> calls = new HashMap<>();
    private final Set<String> constants = new HashSet<>();
    private final CompilationUnitTree unit;
    private final SourcePositions positions;

    private LanguageRules(CompilationUnitTree unit, SourcePositions positions) {
        this.unit = unit;
        this.positions = positions;
    }

    public static void main(String[] args) throws IOException {
        JavaCompiler compiler = ToolProvider.getSystemJavaCompiler();
        try (StandardJavaFileManager files = compiler.getStandardFileManager(null, null, null)) {
            JavacTask task = (JavacTask) compiler.getTask(null, files, null, null, null,
                    files.getJavaFileObjects(new File(args.length > 0 ? args[0] : SOURCE)));
            CompilationUnitTree unit = task.parse().iterator().next();
            new LanguageRules(unit, Trees.instance(task).getSourcePositions()).check();
        }
        finish();
    }

    private void check() {
        lookAtTheUnit();
        ClassTree subject = (ClassTree) unit.getTypeDecls().get(0);
        subject.getMembers().forEach(this::lookAtAMember);
        new Looking().scan(unit, null);
        lookAtTheCalls();
        report(1, "one class, no nested one, no package");
        report(2, "whole numbers and one-dimensional arrays of them, no null, no String, no other object");
        report(3, "no class of the Java library, nothing imported");
        report(4, "arrays are made once, at the start, with a constant length");
        report(5, "static fields are constants, no initialiser blocks");
        report(6, "no throw, try, synchronized, assert, instanceof, lambda, method reference or cast of a reference");
        report(7, "nothing is divided, so no divisor can be 0 (for the indexes see InsideIndexes)");
        report(8, "no recursion, and every loop counts up to a bound");
        report(10, "few parameters, no call inside the arguments of another, short methods, calls at most six deep");
    }

    private void report(int rule, String words) {
        sentence("LANGUAGE.md, rule " + rule + ": " + words);
        List<String> found = offences.getOrDefault(rule, List.of());
        due("offences " + found, found.size(), 0);
    }

    private void offence(int rule, Tree tree, String what) {
        long line = unit.getLineMap().getLineNumber(positions.getStartPosition(unit, tree));
        offences.computeIfAbsent(rule, key -> new ArrayList<>()).add("line " + line + ": " + what);
    }

    private void require(boolean holds, int rule, Tree tree, String what) {
        if (!holds) {
            offence(rule, tree, what);
        }
    }

    private void lookAtTheUnit() {
        require(unit.getPackage() == null, 1, unit, "a package");
        require(unit.getTypeDecls().size() == 1, 1, unit, "several classes");
        require(unit.getImports().isEmpty(), 3, unit, "an import");
    }

    private void lookAtAMember(Tree member) {
        require(!(member instanceof ClassTree), 1, member, "a nested class");
        require(member.getKind() != Kind.BLOCK, 5, member, "an initialiser block");
        if (member instanceof VariableTree field) {
            lookAtAField(field);
        }
        if (member instanceof MethodTree method) {
            lookAtAMethod(method);
        }
    }

    private void lookAtAField(VariableTree field) {
        Set<Modifier> modifiers = field.getModifiers().getFlags();
        if (modifiers.contains(Modifier.STATIC)) {
            boolean number = isPrimitive(field.getType(), TypeKind.INT) || isPrimitive(field.getType(), TypeKind.LONG);
            require(number && modifiers.contains(Modifier.FINAL), 5, field, "a static field that is no constant");
            constants.add(field.getName().toString());
        }
        require(!(field.getType() instanceof ArrayTypeTree) || modifiers.contains(Modifier.FINAL), 4, field,
                "an array field that is not final");
    }

    private static boolean isPrimitive(Tree type, TypeKind kind) {
        return type instanceof PrimitiveTypeTree primitive && primitive.getPrimitiveTypeKind() == kind;
    }

    private void lookAtAMethod(MethodTree method) {
        require(method.getParameters().size() <= MOST_PARAMETERS, 10, method, "too many parameters");
        long first = unit.getLineMap().getLineNumber(positions.getStartPosition(unit, method));
        long last = unit.getLineMap().getLineNumber(positions.getEndPosition(unit, method));
        require(last - first < MOST_LINES_OF_A_METHOD, 10, method, "a long method");
        calls.put(method.getName().toString(), new TreeSet<>());
    }

    /** A chain of calls that is longer than there are methods has a method in it twice. */
    private void lookAtTheCalls() {
        for (String method : calls.keySet()) {
            int deep = longestChain(method, calls.size() + 1);
            require(deep <= calls.size(), 8, unit, "recursion through " + method);
            require(deep <= MOST_CALLS_DEEP, 10, unit, "calls " + deep + " deep from " + method);
        }
    }

    private int longestChain(String method, int most) {
        int longest = 0;
        if (most > 1) {
            for (String called : calls.getOrDefault(method, Set.of())) {
                longest = Math.max(longest, longestChain(called, most - 1));
            }
        }
        return longest + 1;
    }

    /** Goes over the whole source once. */
    private final class Looking extends TreePathScanner<Void, Void> {
        private String method = null;

        @Override
        public Void scan(Tree tree, Void nothing) {
            if (tree != null) {
                require(!FORBIDDEN.contains(tree.getKind()), 6, tree, "a " + tree.getKind());
                require(!FOREIGN.contains(tree.getKind()), 2, tree, "a " + tree.getKind());
                require(!DIVIDING.contains(tree.getKind()), 7, tree, "a " + tree.getKind());
                require(tree.getKind() != Kind.ENHANCED_FOR_LOOP, 8, tree, "a loop without a counter");
            }
            return super.scan(tree, nothing);
        }

        @Override
        public Void visitMethod(MethodTree tree, Void nothing) {
            method = tree.getName().toString();
            if (tree.getReturnType() != null) {
                require(tree.getReturnType() instanceof PrimitiveTypeTree, 2, tree, "an answer that is no number");
            }
            super.visitMethod(tree, nothing);
            method = null;
            return null;
        }

        @Override
        public Void visitVariable(VariableTree tree, Void nothing) {
            Tree type = tree.getType() instanceof ArrayTypeTree array ? array.getType() : tree.getType();
            boolean plain = type instanceof PrimitiveTypeTree && !isPrimitive(type, TypeKind.FLOAT)
                    && !isPrimitive(type, TypeKind.DOUBLE);
            require(plain, 2, tree, "the type of " + tree.getName());
            return super.visitVariable(tree, nothing);
        }

        @Override
        public Void visitTypeCast(TypeCastTree tree, Void nothing) {
            require(tree.getType() instanceof PrimitiveTypeTree, 6, tree, "a cast of a reference");
            return super.visitTypeCast(tree, nothing);
        }

        @Override
        public Void visitMemberSelect(MemberSelectTree tree, Void nothing) {
            boolean own = tree.getExpression().toString().equals("this") || tree.getIdentifier().contentEquals("length");
            require(own, 3, tree, "a member of something else: " + tree);
            return super.visitMemberSelect(tree, nothing);
        }

        @Override
        public Void visitMethodInvocation(MethodInvocationTree tree, Void nothing) {
            String called = tree.getMethodSelect().toString();
            require(calls.containsKey(called), 3, tree, "a call of a method not of this class: " + called);
            if (method != null) {
                calls.get(method).add(called);
            }
            for (ExpressionTree argument : tree.getArguments()) {
                require(!hasCall(argument), 10, tree, "a call inside the arguments of " + called);
            }
            return super.visitMethodInvocation(tree, nothing);
        }

        @Override
        public Void visitNewArray(NewArrayTree tree, Void nothing) {
            boolean constantLength = tree.getInitializers() == null && tree.getDimensions().size() == 1
                    && isConstant(tree.getDimensions().get(0));
            require(constantLength, 4, tree, "an array without a constant length");
            Tree maker = getCurrentPath().getParentPath().getLeaf();
            Tree around = getCurrentPath().getParentPath().getParentPath().getLeaf();
            require(maker instanceof VariableTree && around instanceof ClassTree, 4, tree,
                    "an array not made in a field's initialiser");
            return super.visitNewArray(tree, nothing);
        }

        @Override
        public Void visitForLoop(ForLoopTree tree, Void nothing) {
            lookAtALoop(tree, tree.getCondition());
            return super.visitForLoop(tree, nothing);
        }

        @Override
        public Void visitWhileLoop(WhileLoopTree tree, Void nothing) {
            lookAtALoop(tree, tree.getCondition());
            return super.visitWhileLoop(tree, nothing);
        }

        @Override
        public Void visitDoWhileLoop(DoWhileLoopTree tree, Void nothing) {
            lookAtALoop(tree, tree.getCondition());
            return super.visitDoWhileLoop(tree, nothing);
        }

        private void lookAtALoop(Tree loop, ExpressionTree condition) {
            require(condition != null && countsUp(loop, condition), 8, loop, "a loop that does not count up to a bound");
        }
    }

    private boolean isConstant(ExpressionTree length) {
        return length.getKind() == Kind.INT_LITERAL
                || length instanceof IdentifierTree name && constants.contains(name.getName().toString());
    }

    private static boolean hasCall(Tree tree) {
        boolean[] found = {false};
        new TreeScanner<Void, Void>() {
            @Override
            public Void visitMethodInvocation(MethodInvocationTree call, Void nothing) {
                found[0] = true;
                return null;
            }
        }.scan(tree, null);
        return found[0];
    }

    /** Some part of the condition is counter < bound, and in the loop the counter only grows by one. */
    private static boolean countsUp(Tree loop, ExpressionTree condition) {
        if (condition instanceof ParenthesizedTree inner) {
            return countsUp(loop, inner.getExpression());
        }
        if (!(condition instanceof BinaryTree both)) {
            return false;
        }
        if (condition.getKind() == Kind.CONDITIONAL_AND) {
            return countsUp(loop, both.getLeftOperand()) || countsUp(loop, both.getRightOperand());
        }
        boolean bounded = condition.getKind() == Kind.LESS_THAN && both.getLeftOperand() instanceof IdentifierTree
                && both.getRightOperand() instanceof IdentifierTree;
        if (!bounded) {
            return false;
        }
        Changes changes = new Changes();
        changes.scan(loop, null);
        String counter = both.getLeftOperand().toString();
        return changes.grown.contains(counter) && !changes.set.contains(counter)
                && !changes.grown.contains(both.getRightOperand().toString())
                && !changes.set.contains(both.getRightOperand().toString());
    }

    /** The names that are counted up by one, and those that are changed in another way. */
    private static final class Changes extends TreeScanner<Void, Void> {
        private final Set<String> grown = new HashSet<>();
        private final Set<String> set = new HashSet<>();

        @Override
        public Void visitUnary(UnaryTree tree, Void nothing) {
            if (tree.getKind() == Kind.POSTFIX_INCREMENT || tree.getKind() == Kind.PREFIX_INCREMENT) {
                grown.add(tree.getExpression().toString());
            } else {
                set.add(tree.getExpression().toString());
            }
            return super.visitUnary(tree, nothing);
        }

        @Override
        public Void visitAssignment(AssignmentTree tree, Void nothing) {
            set.add(tree.getVariable().toString());
            return super.visitAssignment(tree, nothing);
        }

        @Override
        public Void visitCompoundAssignment(CompoundAssignmentTree tree, Void nothing) {
            set.add(tree.getVariable().toString());
            return super.visitCompoundAssignment(tree, nothing);
        }
    }
}
