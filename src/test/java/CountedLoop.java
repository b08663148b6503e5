import com.sun.source.tree.AssignmentTree;
import com.sun.source.tree.BinaryTree;
import com.sun.source.tree.CompoundAssignmentTree;
import com.sun.source.tree.ExpressionTree;
import com.sun.source.tree.ForLoopTree;
import com.sun.source.tree.Tree;
import com.sun.source.tree.Tree.Kind;
import com.sun.source.tree.UnaryTree;
import com.sun.source.tree.VariableTree;
import com.sun.source.util.TreeScanner;
import java.util.Set;

/** Tells whether a loop's end can be seen from its own lines. */
final class CountedLoop extends TreeScanner<Void, Void> {
    private final Set<String> names;
    private boolean changed = false;

    private CountedLoop(Set<String> names) {
        this.names = names;
    }

    static boolean is(ForLoopTree loop) {
        if (loop.getInitializer().size() != 1 || !(loop.getInitializer().get(0) instanceof VariableTree)
                || !(loop.getCondition() instanceof BinaryTree) || loop.getUpdate().size() != 1) {
            return false;
        }
        String counter = ((VariableTree) loop.getInitializer().get(0)).getName().toString();
        BinaryTree condition = (BinaryTree) loop.getCondition();
        ExpressionTree update = loop.getUpdate().get(0).getExpression();
        String bound = condition.getRightOperand().toString();
        return condition.getLeftOperand().toString().equals(counter)
                && bound.matches("\\w+") && !bound.equals(counter)
                && update instanceof UnaryTree
                && ((UnaryTree) update).getExpression().toString().equals(counter)
                && meet(condition.getKind(), update.getKind())
                && !changes(loop.getStatement(), Set.of(counter, bound));
    }

    private static boolean meet(Kind condition, Kind update) {
        return condition == Kind.LESS_THAN && update == Kind.POSTFIX_INCREMENT
                || condition == Kind.GREATER_THAN_EQUAL && update == Kind.POSTFIX_DECREMENT;
    }

    private static boolean changes(Tree body, Set<String> names) {
        CountedLoop reader = new CountedLoop(names);
        reader.scan(body, null);
        return reader.changed;
    }

    private void change(ExpressionTree target) {
        changed |= names.contains(target.toString());
    }

    @Override
    public Void visitAssignment(AssignmentTree assignment, Void none) {
        change(assignment.getVariable());
        return super.visitAssignment(assignment, none);
    }

    @Override
    public Void visitCompoundAssignment(CompoundAssignmentTree assignment, Void none) {
        change(assignment.getVariable());
        return super.visitCompoundAssignment(assignment, none);
    }

    @Override
    public Void visitUnary(UnaryTree step, Void none) {
        Kind kind = step.getKind();
        if (kind == Kind.POSTFIX_INCREMENT || kind == Kind.POSTFIX_DECREMENT
                || kind == Kind.PREFIX_INCREMENT || kind == Kind.PREFIX_DECREMENT) {
            change(step.getExpression());
        }
        return super.visitUnary(step, none);
    }
}
