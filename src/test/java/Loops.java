import com.sun.source.tree.ArrayAccessTree;
import com.sun.source.tree.AssignmentTree;
import com.sun.source.tree.BinaryTree;
import com.sun.source.tree.BlockTree;
import com.sun.source.tree.CompoundAssignmentTree;
import com.sun.source.tree.ContinueTree;
import com.sun.source.tree.ExpressionStatementTree;
import com.sun.source.tree.ExpressionTree;
import com.sun.source.tree.IdentifierTree;
import com.sun.source.tree.MethodInvocationTree;
import com.sun.source.tree.ParenthesizedTree;
import com.sun.source.tree.StatementTree;
import com.sun.source.tree.Tree;
import com.sun.source.tree.Tree.Kind;
import com.sun.source.tree.UnaryTree;
import com.sun.source.util.TreeScanner;
import java.util.ArrayList;
import java.util.Collections;
import java.util.List;
import java.util.Set;

/**
 * Whether a loop's end is seen from its own lines (LANGUAGE.md, rule 8). Narrower than the rule: a counter that
 * every round moves by one, and nothing else in the loop moves, stands on the left against a bound that stays.
 */
final class Loops {
    private static final Set<Kind> UP = Set.of(Kind.POSTFIX_INCREMENT, Kind.PREFIX_INCREMENT);
    private static final Set<Kind> DOWN = Set.of(Kind.POSTFIX_DECREMENT, Kind.PREFIX_DECREMENT);

    private final ExpressionTree condition;
    private final List<? extends StatementTree> everyRound;
    private final Tree loop;

    Loops(ExpressionTree condition, List<? extends StatementTree> everyRound, Tree loop) {
        this.condition = condition;
        this.everyRound = everyRound;
        this.loop = loop;
    }

    /** A loop whose counter is moved in its body. */
    static Loops ofBody(ExpressionTree condition, StatementTree body, Tree loop) {
        boolean goesThrough = body instanceof BlockTree && !has(body, ContinueTree.class);
        return new Loops(condition, goesThrough ? ((BlockTree) body).getStatements() : List.of(), loop);
    }

    boolean end() {
        List<Tree> parts = new ArrayList<>();
        conjuncts(condition, parts);
        return parts.stream().anyMatch(this::ends);
    }

    private static void conjuncts(Tree tree, List<Tree> parts) {
        Tree bare = bare(tree);
        if (bare instanceof BinaryTree both && both.getKind() == Kind.CONDITIONAL_AND) {
            conjuncts(both.getLeftOperand(), parts);
            conjuncts(both.getRightOperand(), parts);
        } else if (bare != null) {
            parts.add(bare);
        }
    }

    private boolean ends(Tree part) {
        if (!(part instanceof BinaryTree comparison) || !(bare(comparison.getLeftOperand()) instanceof IdentifierTree counter)) {
            return false;
        }
        Set<Kind> way = switch (comparison.getKind()) {
            case LESS_THAN, LESS_THAN_EQUAL -> UP;
            case GREATER_THAN, GREATER_THAN_EQUAL -> DOWN;
            default -> Set.of();
        };
        String name = counter.getName().toString();
        List<String> moved = changed(loop);
        Tree bound = comparison.getRightOperand();
        return everyRound.stream().anyMatch(s -> moves(s, name, way))
            && Collections.frequency(moved, name) == 1
            && Collections.disjoint(names(bound), moved)
            && !has(bound, MethodInvocationTree.class);
    }

    private static boolean moves(StatementTree statement, String name, Set<Kind> way) {
        return statement instanceof ExpressionStatementTree s
            && s.getExpression() instanceof UnaryTree step
            && way.contains(step.getKind())
            && step.getExpression().toString().equals(name);
    }

    static Tree bare(Tree tree) {
        Tree bare = tree;
        while (bare instanceof ParenthesizedTree p) {
            bare = p.getExpression();
        }
        return bare;
    }

    static boolean has(Tree tree, Class<? extends Tree> kind) {
        boolean[] found = {false};
        new TreeScanner<Void, Void>() {
            @Override
            public Void scan(Tree at, Void p) {
                found[0] |= kind.isInstance(at);
                return super.scan(at, p);
            }
        }.scan(tree, null);
        return found[0];
    }

    private static List<String> names(Tree tree) {
        List<String> names = new ArrayList<>();
        new TreeScanner<Void, Void>() {
            @Override
            public Void visitIdentifier(IdentifierTree at, Void p) {
                names.add(at.getName().toString());
                return null;
            }
        }.scan(tree, null);
        return names;
    }

    /** The variables that are changed in a loop, each as often as a line changes it. */
    private static List<String> changed(Tree tree) {
        List<String> names = new ArrayList<>();
        new TreeScanner<Void, Void>() {
            @Override
            public Void visitAssignment(AssignmentTree at, Void p) {
                names.add(root(at.getVariable()));
                return super.visitAssignment(at, p);
            }

            @Override
            public Void visitCompoundAssignment(CompoundAssignmentTree at, Void p) {
                names.add(root(at.getVariable()));
                return super.visitCompoundAssignment(at, p);
            }

            @Override
            public Void visitUnary(UnaryTree at, Void p) {
                if (UP.contains(at.getKind()) || DOWN.contains(at.getKind())) {
                    names.add(root(at.getExpression()));
                }
                return super.visitUnary(at, p);
            }
        }.scan(tree, null);
        return names;
    }

    private static String root(Tree target) {
        Tree bare = bare(target);
        return bare instanceof ArrayAccessTree element ? element.getExpression().toString() : bare.toString();
    }
}
