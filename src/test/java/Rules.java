import com.sun.source.tree.AssertTree;
import com.sun.source.tree.AssignmentTree;
import com.sun.source.tree.BinaryTree;
import com.sun.source.tree.BlockTree;
import com.sun.source.tree.ClassTree;
import com.sun.source.tree.CompilationUnitTree;
import com.sun.source.tree.CompoundAssignmentTree;
import com.sun.source.tree.DoWhileLoopTree;
import com.sun.source.tree.ExpressionTree;
import com.sun.source.tree.ForLoopTree;
import com.sun.source.tree.IdentifierTree;
import com.sun.source.tree.InstanceOfTree;
import com.sun.source.tree.LambdaExpressionTree;
import com.sun.source.tree.LiteralTree;
import com.sun.source.tree.MemberReferenceTree;
import com.sun.source.tree.MemberSelectTree;
import com.sun.source.tree.MethodInvocationTree;
import com.sun.source.tree.MethodTree;
import com.sun.source.tree.NewArrayTree;
import com.sun.source.tree.NewClassTree;
import com.sun.source.tree.StatementTree;
import com.sun.source.tree.SynchronizedTree;
import com.sun.source.tree.ThrowTree;
import com.sun.source.tree.Tree;
import com.sun.source.tree.Tree.Kind;
import com.sun.source.tree.TryTree;
import com.sun.source.tree.TypeCastTree;
import com.sun.source.tree.VariableTree;
import com.sun.source.tree.WhileLoopTree;
import com.sun.source.util.JavacTask;
import com.sun.source.util.TreePath;
import com.sun.source.util.TreePathScanner;
import com.sun.source.util.Trees;
import java.io.IOException;
import java.net.URI;
import java.util.ArrayList;
import java.util.HashMap;
import java.util.HashSet;
import java.util.LinkedHashSet;
import java.util.List;
import java.util.Map;
import java.util.Set;
import javax.lang.model.element.Element;
import javax.lang.model.element.ElementKind;
import javax.lang.model.element.Modifier;
import javax.lang.model.element.VariableElement;
import javax.lang.model.type.ArrayType;
import javax.lang.model.type.TypeKind;
import javax.lang.model.type.TypeMirror;
import javax.tools.Diagnostic;
import javax.tools.JavaFileObject;
import javax.tools.SimpleJavaFileObject;
import javax.tools.ToolProvider;

/**
 * Looks in the compiler's own tree of a source for what LANGUAGE.md forbids. Where a rule can't be seen in a
 * tree as it stands, a narrower form is looked for, and said so there; that an index is good (rule 7) is left to
 * the tests that make calls.
 */
final class Rules extends TreePathScanner<Void, Void> {
    private static final int MOST_PARAMETERS = 7;
    private static final int MOST_LINES = 60;
    private static final int DEEPEST_CALLS = 6;
    private static final int MOST_FIELDS = 40;

    private static final Set<TypeKind> NUMBERS =
        Set.of(TypeKind.INT, TypeKind.LONG, TypeKind.SHORT, TypeKind.BYTE, TypeKind.CHAR, TypeKind.BOOLEAN);
    private static final Set<Kind> WHOLE_LITERALS =
        Set.of(Kind.INT_LITERAL, Kind.LONG_LITERAL, Kind.CHAR_LITERAL, Kind.BOOLEAN_LITERAL);

    private final CompilationUnitTree unit;
    private final Trees trees;
    private final Set<String> breaches = new LinkedHashSet<>();
    private final Map<Element, Set<Element>> callsOf = new HashMap<>();
    private final Set<String> publicNames = new HashSet<>();
    private final Map<String, Tree> privateNames = new HashMap<>();
    private Element theClass;

    private Rules(CompilationUnitTree unit, Trees trees) {
        this.unit = unit;
        this.trees = trees;
    }

    /** The breaches that a source of the class has, each beginning with "rule n: ". */
    static Set<String> broken(String source) throws IOException {
        List<String> faults = new ArrayList<>();
        JavaFileObject file = new SimpleJavaFileObject(URI.create("string:///GridFileIndex.java"), JavaFileObject.Kind.SOURCE) {
            @Override
            public CharSequence getCharContent(boolean ignored) {
                return source;
            }
        };
        JavacTask task = (JavacTask) ToolProvider.getSystemJavaCompiler().getTask(
            null, null, d -> noteError(d, faults), List.of("-proc:none"), null, List.of(file));
        CompilationUnitTree unit = task.parse().iterator().next();
        task.analyze();
        Rules rules = new Rules(unit, Trees.instance(task));
        rules.breaches.addAll(faults);
        if (faults.isEmpty()) {
            rules.scan(unit, null);
            rules.names();
            rules.callsEnd();
        }
        return rules.breaches;
    }

    private static void noteError(Diagnostic<?> diagnostic, List<String> faults) {
        if (diagnostic.getKind() == Diagnostic.Kind.ERROR) {
            faults.add("does not compile: " + diagnostic);
        }
    }

    private void breach(int rule, String what, Tree where) {
        long at = trees.getSourcePositions().getStartPosition(unit, where);
        breaches.add("rule " + rule + ": " + what + ", line " + unit.getLineMap().getLineNumber(Math.max(at, 0)));
    }

    private void need(boolean holds, int rule, String what, Tree where) {
        if (!holds) {
            breach(rule, what, where);
        }
    }

    private Element elementOf(Tree tree) {
        return trees.getElement(new TreePath(getCurrentPath(), tree));
    }

    private TypeMirror typeOf(Tree tree) {
        return trees.getTypeMirror(new TreePath(getCurrentPath(), tree));
    }

    private static boolean isArray(TypeMirror type) {
        return type != null && type.getKind() == TypeKind.ARRAY;
    }

    private static boolean isAllowed(TypeMirror type) {
        return isArray(type)
            ? NUMBERS.contains(((ArrayType) type).getComponentType().getKind())
            : NUMBERS.contains(type.getKind());
    }

    private static Set<Modifier> flagsOf(MethodTree tree) {
        return tree.getModifiers().getFlags();
    }

    private static boolean isConstructor(MethodTree tree) {
        return tree.getReturnType() == null;
    }

    // Rule 1, and the counts of rule 10

    @Override
    public Void visitCompilationUnit(CompilationUnitTree tree, Void p) {
        need(tree.getPackage() == null, 1, "a package line", tree);
        need(tree.getImports().isEmpty(), 3, "an import", tree);
        need(tree.getTypeDecls().size() == 1, 1, "not one class", tree);
        return super.visitCompilationUnit(tree, p);
    }

    @Override
    public Void visitClass(ClassTree tree, Void p) {
        if (getCurrentPath().getParentPath().getLeaf() != unit) {
            breach(1, "a class in the class", tree);
            return null;
        }
        theClass = trees.getElement(getCurrentPath());
        Set<Modifier> flags = tree.getModifiers().getFlags();
        need(flags.contains(Modifier.PUBLIC) && flags.contains(Modifier.FINAL), 1, "not public and final", tree);
        need(tree.getKind() == Kind.CLASS, 1, "not a class", tree);
        need(tree.getExtendsClause() == null && tree.getImplementsClause().isEmpty(), 3, "another class above it", tree);
        need(tree.getTypeParameters().isEmpty(), 2, "a type parameter", tree);
        int fields = 0;
        for (Tree member : tree.getMembers()) {
            if (member instanceof VariableTree field && !field.getModifiers().getFlags().contains(Modifier.STATIC)) {
                fields++;
            }
            if (member instanceof BlockTree block) {
                need(!block.isStatic(), 5, "a static initialiser", block);
            }
        }
        need(fields <= MOST_FIELDS, 10, fields + " fields", tree);
        return super.visitClass(tree, p);
    }

    private void names() {
        for (String name : privateNames.keySet()) {
            need(!publicNames.contains(name), 1, "private " + name + " bears a public name", privateNames.get(name));
        }
    }

    @Override
    public Void visitMethod(MethodTree tree, Void p) {
        String name = tree.getName().toString();
        boolean isPublic = flagsOf(tree).contains(Modifier.PUBLIC);
        need(isPublic || flagsOf(tree).contains(Modifier.PRIVATE), 1, name + " is neither public nor private", tree);
        if (isPublic) {
            publicNames.add(name);
        } else {
            privateNames.put(name, tree);
        }
        if (!isConstructor(tree)) {
            TypeMirror answer = typeOf(tree.getReturnType());
            need(!isArray(answer), 4, name + " answers an array", tree);
            need(answer.getKind() == TypeKind.VOID || isAllowed(answer), 2, name + " answers " + answer, tree);
        }
        need(tree.getTypeParameters().isEmpty(), 2, name + " has a type parameter", tree);
        need(!flagsOf(tree).contains(Modifier.SYNCHRONIZED), 6, name + " is synchronized", tree);
        need(tree.getThrows().isEmpty(), 6, name + " has a throws clause", tree);
        need(tree.getParameters().size() <= MOST_PARAMETERS, 10, name + " has too many parameters", tree);
        need(linesOf(tree) <= MOST_LINES, 10, name + " is too long", tree);
        callsOf.putIfAbsent(trees.getElement(getCurrentPath()), new LinkedHashSet<>());
        return super.visitMethod(tree, p);
    }

    private long linesOf(Tree tree) {
        long first = trees.getSourcePositions().getStartPosition(unit, tree);
        long last = trees.getSourcePositions().getEndPosition(unit, tree);
        return unit.getLineMap().getLineNumber(last) - unit.getLineMap().getLineNumber(first) + 1;
    }

    // Rules 2, 3, 5: types, names from outside, static fields

    @Override
    public Void visitVariable(VariableTree tree, Void p) {
        VariableElement variable = (VariableElement) trees.getElement(getCurrentPath());
        TypeMirror type = variable.asType();
        need(isAllowed(type), 2, tree.getName() + " is of type " + type, tree);
        if (variable.getKind() == ElementKind.FIELD) {
            need(variable.getModifiers().contains(Modifier.PRIVATE), 1, tree.getName() + " is not private", tree);
        }
        if (variable.getModifiers().contains(Modifier.STATIC)) {
            boolean isIntOrLong = type.getKind() == TypeKind.INT || type.getKind() == TypeKind.LONG;
            need(isIntOrLong && variable.getConstantValue() != null, 5, tree.getName() + " is no constant", tree);
        }
        return super.visitVariable(tree, p);
    }

    @Override
    public Void visitLiteral(LiteralTree tree, Void p) {
        need(tree.getKind() != Kind.NULL_LITERAL, 4, "null", tree);
        need(tree.getKind() == Kind.NULL_LITERAL || WHOLE_LITERALS.contains(tree.getKind()), 2, "the literal " + tree, tree);
        return super.visitLiteral(tree, p);
    }

    @Override
    public Void visitIdentifier(IdentifierTree tree, Void p) {
        // The compiler itself writes the constructor's super().
        if (!tree.getName().contentEquals("super")) {
            ofTheClass(trees.getElement(getCurrentPath()), tree);
        }
        return super.visitIdentifier(tree, p);
    }

    @Override
    public Void visitMemberSelect(MemberSelectTree tree, Void p) {
        if (!tree.getIdentifier().contentEquals("length") || !isArray(typeOf(tree.getExpression()))) {
            ofTheClass(trees.getElement(getCurrentPath()), tree);
        }
        return super.visitMemberSelect(tree, p);
    }

    private void ofTheClass(Element named, Tree where) {
        Element owner = named;
        while (owner != null && owner != theClass) {
            owner = owner.getEnclosingElement();
        }
        need(owner == theClass, 3, where + " is not of the class", where);
    }

    // Rule 4: arrays. Narrower than the rule: made as fields' initialisers alone, and no variable changes to another.

    @Override
    public Void visitNewClass(NewClassTree tree, Void p) {
        breach(4, "an object is made", tree);
        return super.visitNewClass(tree, p);
    }

    @Override
    public Void visitNewArray(NewArrayTree tree, Void p) {
        boolean hasLength = tree.getDimensions().size() == 1 && tree.getInitializers() == null;
        need(hasLength, 4, "an array without one length", tree);
        if (hasLength) {
            Tree length = tree.getDimensions().get(0);
            boolean isPlain = length instanceof LiteralTree || length instanceof IdentifierTree;
            need(isPlain && constant(length) != null && constant(length) >= 1, 4, "the array's length " + length, tree);
        }
        TreePath field = getCurrentPath().getParentPath();
        boolean isInitialiser = field.getLeaf() instanceof VariableTree && field.getParentPath().getLeaf() instanceof ClassTree;
        need(isInitialiser, 4, "an array made elsewhere than as a field's initialiser", tree);
        return super.visitNewArray(tree, p);
    }

    @Override
    public Void visitAssignment(AssignmentTree tree, Void p) {
        need(!isArray(typeOf(tree.getVariable())), 4, "an array is assigned to", tree);
        return super.visitAssignment(tree, p);
    }

    private MethodTree enclosingMethod() {
        for (TreePath at = getCurrentPath(); at != null; at = at.getParentPath()) {
            if (at.getLeaf() instanceof MethodTree method) {
                return method;
            }
        }
        return null;
    }

    @Override
    public Void visitBinary(BinaryTree tree, Void p) {
        if (tree.getKind() == Kind.EQUAL_TO || tree.getKind() == Kind.NOT_EQUAL_TO) {
            boolean ofArrays = isArray(typeOf(tree.getLeftOperand())) || isArray(typeOf(tree.getRightOperand()));
            need(!ofArrays, 4, "an array is compared", tree);
        }
        if (tree.getKind() == Kind.DIVIDE || tree.getKind() == Kind.REMAINDER) {
            divisor(tree.getRightOperand());
        }
        return super.visitBinary(tree, p);
    }

    // Rule 6: forms that are left out

    @Override
    public Void visitThrow(ThrowTree tree, Void p) {
        breach(6, "throw", tree);
        return super.visitThrow(tree, p);
    }

    @Override
    public Void visitTry(TryTree tree, Void p) {
        breach(6, "try", tree);
        return super.visitTry(tree, p);
    }

    @Override
    public Void visitSynchronized(SynchronizedTree tree, Void p) {
        breach(6, "synchronized", tree);
        return super.visitSynchronized(tree, p);
    }

    @Override
    public Void visitAssert(AssertTree tree, Void p) {
        breach(6, "assert", tree);
        return super.visitAssert(tree, p);
    }

    @Override
    public Void visitInstanceOf(InstanceOfTree tree, Void p) {
        breach(6, "instanceof", tree);
        return super.visitInstanceOf(tree, p);
    }

    @Override
    public Void visitLambdaExpression(LambdaExpressionTree tree, Void p) {
        breach(6, "a lambda", tree);
        return super.visitLambdaExpression(tree, p);
    }

    @Override
    public Void visitMemberReference(MemberReferenceTree tree, Void p) {
        breach(6, "a method reference", tree);
        return super.visitMemberReference(tree, p);
    }

    @Override
    public Void visitTypeCast(TypeCastTree tree, Void p) {
        need(NUMBERS.contains(typeOf(tree.getType()).getKind()), 6, "a cast to " + tree.getType(), tree);
        return super.visitTypeCast(tree, p);
    }

    // Rule 7: divisors. Narrower than the rule: a divisor is a constant other than 0.

    private void divisor(ExpressionTree tree) {
        Long value = constant(tree);
        need(value != null && value != 0, 7, "the divisor " + tree, tree);
    }

    @Override
    public Void visitCompoundAssignment(CompoundAssignmentTree tree, Void p) {
        if (tree.getKind() == Kind.DIVIDE_ASSIGNMENT || tree.getKind() == Kind.REMAINDER_ASSIGNMENT) {
            divisor(tree.getExpression());
        }
        return super.visitCompoundAssignment(tree, p);
    }

    /** What a literal, a constant, or a product of these is; null for what is none of them. */
    private Long constant(Tree tree) {
        Tree bare = Loops.bare(tree);
        if (bare instanceof LiteralTree literal) {
            return literal.getValue() instanceof Number n ? n.longValue() : null;
        }
        if (bare instanceof IdentifierTree && elementOf(bare) instanceof VariableElement v) {
            return v.getConstantValue() instanceof Number n ? n.longValue() : null;
        }
        if (bare instanceof BinaryTree product && product.getKind() == Kind.MULTIPLY) {
            Long left = constant(product.getLeftOperand());
            Long right = constant(product.getRightOperand());
            return left == null || right == null ? null : left * right;
        }
        return null;
    }

    // Rules 8 and 10: loops and calls

    @Override
    public Void visitForLoop(ForLoopTree tree, Void p) {
        List<StatementTree> steps = new ArrayList<>(tree.getUpdate());
        need(new Loops(tree.getCondition(), steps, tree).end(), 8, "a for loop without an end that is seen", tree);
        return super.visitForLoop(tree, p);
    }

    @Override
    public Void visitWhileLoop(WhileLoopTree tree, Void p) {
        need(Loops.ofBody(tree.getCondition(), tree.getStatement(), tree).end(), 8, "a while loop without an end that is seen", tree);
        return super.visitWhileLoop(tree, p);
    }

    @Override
    public Void visitDoWhileLoop(DoWhileLoopTree tree, Void p) {
        need(Loops.ofBody(tree.getCondition(), tree.getStatement(), tree).end(), 8, "a do loop without an end that is seen", tree);
        return super.visitDoWhileLoop(tree, p);
    }

    @Override
    public Void visitMethodInvocation(MethodInvocationTree tree, Void p) {
        boolean isSuper = tree.getMethodSelect().toString().equals("super");
        for (ExpressionTree argument : tree.getArguments()) {
            need(!Loops.has(argument, MethodInvocationTree.class), 10, "a call inside the arguments of another", tree);
        }
        MethodTree caller = enclosingMethod();
        // Narrower than rule 4: nothing is called while the object is made.
        boolean whileMade = caller == null || isConstructor(caller);
        need(isSuper || !whileMade, 4, "a call while the object is made", tree);
        if (!whileMade) {
            callsOf.computeIfAbsent(elementOf(caller), m -> new LinkedHashSet<>()).add(trees.getElement(getCurrentPath()));
        }
        return super.visitMethodInvocation(tree, p);
    }

    private void callsEnd() {
        for (Element method : callsOf.keySet()) {
            int deep = depth(method, new HashSet<>());
            if (deep < 0) {
                breaches.add("rule 8: " + method + " comes back to itself");
            } else if (deep > DEEPEST_CALLS) {
                breaches.add("rule 10: calls from " + method + " go " + deep + " deep");
            }
        }
    }

    /** How many methods stand on each other at most, this one among them; below 0 if they come round. */
    private int depth(Element method, Set<Element> above) {
        if (!above.add(method)) {
            return -1;
        }
        int deepest = 0;
        for (Element called : callsOf.getOrDefault(method, Set.of())) {
            int deep = depth(called, above);
            if (deep < 0) {
                return -1;
            }
            deepest = Math.max(deepest, deep);
        }
        above.remove(method);
        return deepest + 1;
    }
}
