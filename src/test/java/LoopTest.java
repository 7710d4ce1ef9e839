import com.sun.source.tree.ArrayAccessTree;
import com.sun.source.tree.AssignmentTree;
import com.sun.source.tree.BinaryTree;
import com.sun.source.tree.BlockTree;
import com.sun.source.tree.ClassTree;
import com.sun.source.tree.CompoundAssignmentTree;
import com.sun.source.tree.ContinueTree;
import com.sun.source.tree.DoWhileLoopTree;
import com.sun.source.tree.EnhancedForLoopTree;
import com.sun.source.tree.ExpressionStatementTree;
import com.sun.source.tree.ExpressionTree;
import com.sun.source.tree.ForLoopTree;
import com.sun.source.tree.IdentifierTree;
import com.sun.source.tree.IfTree;
import com.sun.source.tree.LiteralTree;
import com.sun.source.tree.MemberSelectTree;
import com.sun.source.tree.MethodInvocationTree;
import com.sun.source.tree.MethodTree;
import com.sun.source.tree.ParenthesizedTree;
import com.sun.source.tree.ReturnTree;
import com.sun.source.tree.StatementTree;
import com.sun.source.tree.Tree;
import com.sun.source.tree.UnaryTree;
import com.sun.source.tree.VariableTree;
import com.sun.source.tree.WhileLoopTree;
import com.sun.source.util.TreeScanner;
import java.io.IOException;
import java.util.ArrayList;
import java.util.HashMap;
import java.util.List;
import java.util.Map;
import java.util.Set;
import java.util.TreeSet;
import javax.lang.model.element.Modifier;

/**
 * Two sentences of LANGUAGE.md, read off the program's text. Rule 8: every loop has a counter that goes by one towards a
 * bound, that nothing else in the loop changes, and whose bound nothing in the loop changes. Rule 7: a divisor is a
 * constant that isn't 0, or was compared with 0 before. What rule 7 says of indexes is tested by SafetyTest.
 */
public final class LoopTest extends TreeScanner<Void, Void> {
    private record Loop(Tree tree, Tree body, ExpressionTree condition, Tree step) { }

    private final Check check = new Check();
    private final ProgramText text;
    private final Map<String, Changes> changesOfMethod = new HashMap<>();
    private final Set<String> fields = new TreeSet<>();
    private final Set<String> constants = new TreeSet<>();
    private final List<Loop> loops = new ArrayList<>();
    private final Set<String> comparedWithZero = new TreeSet<>();
    private int divisors = 0;

    /** The names that a piece of the program gives a new value to, an array's for its elements, and the methods called. */
    private static final class Changes extends TreeScanner<Void, Void> {
        private final List<String> assigned = new ArrayList<>();
        private final Set<String> called = new TreeSet<>();
        private boolean jumps = false;

        static Changes of(Tree tree) {
            Changes changes = new Changes();
            changes.scan(tree, null);
            return changes;
        }

        private static String nameOf(Tree target) {
            if (target instanceof ArrayAccessTree access) {
                return nameOf(access.getExpression());
            }
            return target instanceof MemberSelectTree select ? select.getIdentifier().toString() : target.toString();
        }

        @Override
        public Void visitAssignment(AssignmentTree tree, Void nothing) {
            assigned.add(nameOf(tree.getVariable()));
            return super.visitAssignment(tree, nothing);
        }

        @Override
        public Void visitCompoundAssignment(CompoundAssignmentTree tree, Void nothing) {
            assigned.add(nameOf(tree.getVariable()));
            return super.visitCompoundAssignment(tree, nothing);
        }

        @Override
        public Void visitUnary(UnaryTree tree, Void nothing) {
            switch (tree.getKind()) {
                case POSTFIX_INCREMENT, POSTFIX_DECREMENT, PREFIX_INCREMENT, PREFIX_DECREMENT ->
                    assigned.add(nameOf(tree.getExpression()));
                default -> { }
            }
            return super.visitUnary(tree, nothing);
        }

        @Override
        public Void visitMethodInvocation(MethodInvocationTree tree, Void nothing) {
            called.add(tree.getMethodSelect().toString());
            return super.visitMethodInvocation(tree, nothing);
        }

        @Override
        public Void visitContinue(ContinueTree tree, Void nothing) {
            jumps = true;
            return super.visitContinue(tree, nothing);
        }
    }

    private LoopTest(ProgramText text) {
        this.text = text;
    }

    public static void main(String[] args) throws IOException {
        new LoopTest(new ProgramText()).run();
    }

    private void run() {
        scan(text.unit(), null);
        for (Loop loop : loops) {
            check.due("rule 8, the end of the loop in line " + text.firstLine(loop.tree()) + " is seen", ends(loop), true);
        }
        // Were the scan to miss them all, nothing would be tested.
        check.due("loops were found", loops.size() >= 20, true);
        check.due("divisors were found", divisors >= 5, true);
        check.end();
    }

    private boolean ends(Loop loop) {
        if (!(loop.step() instanceof ExpressionStatementTree statement) || !(statement.getExpression() instanceof UnaryTree step)) {
            return false;
        }
        String counter = step.getExpression().toString();
        boolean up = step.getKind() == Tree.Kind.POSTFIX_INCREMENT;
        boolean down = step.getKind() == Tree.Kind.POSTFIX_DECREMENT;
        Set<String> changed = changedIn(loop, step);
        for (ExpressionTree side : conjunction(loop.condition())) {
            boolean towards = up && (side.getKind() == Tree.Kind.LESS_THAN || side.getKind() == Tree.Kind.LESS_THAN_EQUAL)
                || down && (side.getKind() == Tree.Kind.GREATER_THAN || side.getKind() == Tree.Kind.GREATER_THAN_EQUAL);
            if (towards && ((BinaryTree) side).getLeftOperand().toString().equals(counter)) {
                return !changed.contains(counter) && isSteady(((BinaryTree) side).getRightOperand(), counter, changed);
            }
        }
        return false;
    }

    /** The names changed in one round, but for the step itself; fields also by the methods called and those these call. */
    private Set<String> changedIn(Loop loop, UnaryTree step) {
        Changes round = Changes.of(loop.body());
        round.scan(loop.condition(), null);
        List<String> names = new ArrayList<>(round.assigned);
        if (loop.tree() instanceof WhileLoopTree) {
            names.remove(step.getExpression().toString());
        }
        List<String> agenda = new ArrayList<>(round.called);
        for (int i = 0; i < agenda.size(); i++) {
            Changes called = changesOfMethod.get(agenda.get(i));
            called.assigned.stream().filter(fields::contains).forEach(names::add);
            called.called.stream().filter(m -> !agenda.contains(m)).forEach(agenda::add);
        }
        return new TreeSet<>(names);
    }

    private static List<ExpressionTree> conjunction(ExpressionTree condition) {
        if (condition instanceof ParenthesizedTree brackets) {
            return conjunction(brackets.getExpression());
        }
        if (condition == null || condition.getKind() != Tree.Kind.CONDITIONAL_AND) {
            return condition == null ? List.of() : List.of(condition);
        }
        List<ExpressionTree> all = new ArrayList<>(conjunction(((BinaryTree) condition).getLeftOperand()));
        all.addAll(conjunction(((BinaryTree) condition).getRightOperand()));
        return all;
    }

    private static boolean isSteady(ExpressionTree bound, String counter, Set<String> changed) {
        Set<String> names = new TreeSet<>();
        new TreeScanner<Void, Void>() {
            @Override
            public Void visitIdentifier(IdentifierTree tree, Void nothing) {
                names.add(tree.getName().toString());
                return null;
            }
        }.scan(bound, null);
        return !names.contains(counter) && names.stream().noneMatch(changed::contains) && Changes.of(bound).called.isEmpty();
    }

    @Override
    public Void visitClass(ClassTree tree, Void nothing) {
        for (Tree member : tree.getMembers()) {
            if (member instanceof VariableTree field) {
                fields.add(field.getName().toString());
            }
        }
        return super.visitClass(tree, nothing);
    }

    @Override
    public Void visitMethod(MethodTree tree, Void nothing) {
        changesOfMethod.put(tree.getName().toString(), Changes.of(tree));
        comparedWithZero.clear();
        return super.visitMethod(tree, nothing);
    }

    @Override
    public Void visitVariable(VariableTree tree, Void nothing) {
        boolean fixed = tree.getModifiers().getFlags().contains(Modifier.STATIC);
        if (fixed && tree.getInitializer() instanceof LiteralTree literal && !literal.getValue().equals(0)) {
            constants.add(tree.getName().toString());
        }
        return super.visitVariable(tree, nothing);
    }

    @Override
    public Void visitForLoop(ForLoopTree tree, Void nothing) {
        Tree step = tree.getUpdate().size() == 1 ? tree.getUpdate().get(0) : null;
        loops.add(new Loop(tree, tree.getStatement(), tree.getCondition(), step));
        return super.visitForLoop(tree, nothing);
    }

    /** The step must be the last statement, and nothing may jump over it. */
    @Override
    public Void visitWhileLoop(WhileLoopTree tree, Void nothing) {
        List<? extends StatementTree> block = tree.getStatement() instanceof BlockTree b ? b.getStatements() : List.of();
        boolean steps = !block.isEmpty() && !Changes.of(tree.getStatement()).jumps;
        loops.add(new Loop(tree, tree.getStatement(), tree.getCondition(), steps ? block.get(block.size() - 1) : null));
        return super.visitWhileLoop(tree, nothing);
    }

    @Override
    public Void visitDoWhileLoop(DoWhileLoopTree tree, Void nothing) {
        loops.add(new Loop(tree, tree.getStatement(), tree.getCondition(), null));
        return super.visitDoWhileLoop(tree, nothing);
    }

    @Override
    public Void visitEnhancedForLoop(EnhancedForLoopTree tree, Void nothing) {
        loops.add(new Loop(tree, tree.getStatement(), null, null));
        return super.visitEnhancedForLoop(tree, nothing);
    }

    /** A name counts as compared where the method is left if it is 0; what else that depends on is for the reader. */
    @Override
    public Void visitIf(IfTree tree, Void nothing) {
        boolean[] leaves = {false};
        new TreeScanner<Void, Void>() {
            @Override
            public Void visitReturn(ReturnTree inner, Void none) {
                leaves[0] = true;
                return null;
            }
        }.scan(tree.getThenStatement(), null);
        for (ExpressionTree side : conjunction(tree.getCondition())) {
            if (leaves[0] && side.getKind() == Tree.Kind.EQUAL_TO && ((BinaryTree) side).getRightOperand().toString().equals("0")) {
                comparedWithZero.add(((BinaryTree) side).getLeftOperand().toString());
            }
        }
        return super.visitIf(tree, nothing);
    }

    @Override
    public Void visitBinary(BinaryTree tree, Void nothing) {
        if (tree.getKind() == Tree.Kind.DIVIDE || tree.getKind() == Tree.Kind.REMAINDER) {
            checkDivisor(tree, tree.getRightOperand());
        }
        return super.visitBinary(tree, nothing);
    }

    @Override
    public Void visitCompoundAssignment(CompoundAssignmentTree tree, Void nothing) {
        if (tree.getKind() == Tree.Kind.DIVIDE_ASSIGNMENT || tree.getKind() == Tree.Kind.REMAINDER_ASSIGNMENT) {
            checkDivisor(tree, tree.getExpression());
        }
        return super.visitCompoundAssignment(tree, nothing);
    }

    private void checkDivisor(Tree tree, ExpressionTree divisor) {
        divisors++;
        String name = divisor.toString();
        boolean safe = constants.contains(name) || comparedWithZero.contains(name);
        check.due("rule 7, the divisor of " + tree + " in line " + text.firstLine(tree) + " is looked at", safe, true);
    }
}
