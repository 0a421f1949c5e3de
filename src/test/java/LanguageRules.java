import com.sun.source.tree.ArrayTypeTree;
import com.sun.source.tree.AssertTree;
import com.sun.source.tree.AssignmentTree;
import com.sun.source.tree.BinaryTree;
import com.sun.source.tree.BlockTree;
import com.sun.source.tree.ClassTree;
import com.sun.source.tree.CompilationUnitTree;
import com.sun.source.tree.CompoundAssignmentTree;
import com.sun.source.tree.DoWhileLoopTree;
import com.sun.source.tree.ExpressionTree;
import com.sun.source.tree.ForLoopTree;
import com.sun.source.tree.IdentifierTree;
import com.sun.source.tree.ImportTree;
import com.sun.source.tree.InstanceOfTree;
import com.sun.source.tree.LambdaExpressionTree;
import com.sun.source.tree.LiteralTree;
import com.sun.source.tree.MemberReferenceTree;
import com.sun.source.tree.MemberSelectTree;
import com.sun.source.tree.MethodInvocationTree;
import com.sun.source.tree.MethodTree;
import com.sun.source.tree.NewArrayTree;
import com.sun.source.tree.NewClassTree;
import com.sun.source.tree.PackageTree;
import com.sun.source.tree.PrimitiveTypeTree;
import com.sun.source.tree.SynchronizedTree;
import com.sun.source.tree.ThrowTree;
import com.sun.source.tree.Tree;
import com.sun.source.tree.TryTree;
import com.sun.source.tree.TypeCastTree;
import com.sun.source.tree.UnaryTree;
import com.sun.source.tree.VariableTree;
import com.sun.source.tree.WhileLoopTree;
import com.sun.source.util.JavacTask;
import com.sun.source.util.SourcePositions;
import com.sun.source.util.TreePath;
import com.sun.source.util.TreePathScanner;
import com.sun.source.util.TreeScanner;
import com.sun.source.util.Trees;
import java.io.IOException;
import java.net.URI;
import java.util.ArrayList;
import java.util.EnumSet;
import java.util.HashMap;
import java.util.HashSet;
import java.util.List;
import java.util.Map;
import java.util.Set;
import java.util.TreeMap;
import java.util.TreeSet;
import javax.lang.model.element.Modifier;
import javax.lang.model.type.TypeKind;
import javax.tools.JavaFileObject;
import javax.tools.SimpleJavaFileObject;
import javax.tools.ToolProvider;

/**
 * Tells which rules of LANGUAGE.md a program's text breaks, as far as its parsed form shows that.
 * Where a rule leaves room ("some sixty lines"), so does this: a program within the rules passes,
 * whatever its form.
 */
final class LanguageRules extends TreePathScanner<Void, Void> {
    private static final Set<TypeKind> TYPES = EnumSet.of(TypeKind.INT, TypeKind.LONG, TypeKind.SHORT,
        TypeKind.BYTE, TypeKind.CHAR, TypeKind.BOOLEAN);
    private static final Set<Tree.Kind> LOOPS = EnumSet.of(Tree.Kind.FOR_LOOP, Tree.Kind.WHILE_LOOP,
        Tree.Kind.DO_WHILE_LOOP, Tree.Kind.ENHANCED_FOR_LOOP);
    private static final Set<Tree.Kind> BRANCHES = EnumSet.of(Tree.Kind.IF, Tree.Kind.SWITCH,
        Tree.Kind.SWITCH_EXPRESSION, Tree.Kind.CONDITIONAL_EXPRESSION);
    private static final Set<Tree.Kind> COMPARISONS = EnumSet.of(Tree.Kind.LESS_THAN,
        Tree.Kind.LESS_THAN_EQUAL, Tree.Kind.GREATER_THAN, Tree.Kind.GREATER_THAN_EQUAL,
        Tree.Kind.EQUAL_TO, Tree.Kind.NOT_EQUAL_TO);
    private static final Set<Tree.Kind> CHANGES = EnumSet.of(Tree.Kind.PREFIX_INCREMENT,
        Tree.Kind.PREFIX_DECREMENT, Tree.Kind.POSTFIX_INCREMENT, Tree.Kind.POSTFIX_DECREMENT);

    private static final int MOST_PARAMETERS = 7;
    private static final int MOST_CALLS_DEEP = 6;
    /** The rule says "some sixty" and "some forty". */
    private static final int MOST_LINES = 70;
    private static final int MOST_FIELDS = 45;

    private final Set<String> broken = new TreeSet<>();
    private final CompilationUnitTree unit;
    private final SourcePositions positions;
    private final String className;

    private final Set<String> constants = new HashSet<>();
    private final Set<String> arrayFields = new HashSet<>();
    private final Map<String, Boolean> methodIsStatic = new HashMap<>();
    private final Map<String, Set<String>> calls = new TreeMap<>();

    private Set<String> locals = new HashSet<>();
    private Set<String> localArrays = new HashSet<>();
    private boolean constructorHasCalled;

    private LanguageRules(CompilationUnitTree unit, SourcePositions positions, ClassTree program) {
        this.unit = unit;
        this.positions = positions;
        this.className = program.getSimpleName().toString();
        collectMembers(program);
    }

    /** Each finding begins with "rule" and the rule's number. */
    static Set<String> brokenBy(String source) throws IOException {
        JavaFileObject file = new SimpleJavaFileObject(URI.create("string:///BitBlaster.java"),
                JavaFileObject.Kind.SOURCE) {
            @Override
            public CharSequence getCharContent(boolean ignoreEncodingErrors) {
                return source;
            }
        };
        JavacTask task = (JavacTask) ToolProvider.getSystemJavaCompiler()
            .getTask(null, null, null, null, null, List.of(file));
        CompilationUnitTree unit = task.parse().iterator().next();
        ClassTree program = (ClassTree) unit.getTypeDecls().get(0);
        LanguageRules rules = new LanguageRules(unit, Trees.instance(task).getSourcePositions(), program);
        rules.scan(unit, null);
        rules.lookAtCalls();
        return rules.broken;
    }

    private void collectMembers(ClassTree program) {
        int fields = 0;
        for (Tree member : program.getMembers()) {
            if (member instanceof MethodTree) {
                MethodTree method = (MethodTree) member;
                methodIsStatic.put(nameOf(method), isStatic(method.getModifiers().getFlags()));
            } else if (member instanceof VariableTree) {
                VariableTree field = (VariableTree) member;
                boolean constant = isStatic(field.getModifiers().getFlags());
                fields += constant ? 0 : 1;
                (constant ? constants : isArray(field) ? arrayFields : new HashSet<String>())
                    .add(field.getName().toString());
            }
        }
        breaks(10, fields > MOST_FIELDS, program, fields + " fields");
    }

    private void breaks(int rule, boolean broken, Tree where, String what) {
        if (broken) {
            this.broken.add("rule " + rule + ", line " + lineOf(where, false) + ": " + what);
        }
    }

    private long lineOf(Tree tree, boolean end) {
        long at = end ? positions.getEndPosition(unit, tree) : positions.getStartPosition(unit, tree);
        return at < 0 ? 0 : unit.getLineMap().getLineNumber(at);
    }

    private static boolean isStatic(Set<Modifier> flags) {
        return flags.contains(Modifier.STATIC);
    }

    private static boolean isArray(VariableTree variable) {
        return variable.getType() != null && variable.getType().getKind() == Tree.Kind.ARRAY_TYPE;
    }

    /** Overloads differ in the number of their parameters, if there are any. */
    private static String nameOf(MethodTree method) {
        return method.getName() + "/" + method.getParameters().size();
    }

    /** The method that the place now looked at is in; null in a field's initialiser. */
    private MethodTree enclosingMethod() {
        for (Tree tree : getCurrentPath()) {
            if (tree instanceof MethodTree) {
                return (MethodTree) tree;
            }
        }
        return null;
    }

    private boolean inConstructor() {
        MethodTree method = enclosingMethod();
        return method != null && method.getReturnType() == null;
    }

    private boolean isInside(Set<Tree.Kind> kinds) {
        for (Tree tree : getCurrentPath().getParentPath()) {
            if (kinds.contains(tree.getKind())) {
                return true;
            }
        }
        return false;
    }

    /** The name in "name" or "this.name"; otherwise empty. */
    private static String plainName(Tree tree) {
        if (tree instanceof IdentifierTree) {
            return ((IdentifierTree) tree).getName().toString();
        }
        return isOfThis(tree) ? ((MemberSelectTree) tree).getIdentifier().toString() : "";
    }

    private static boolean isOfThis(Tree tree) {
        return tree instanceof MemberSelectTree
            && ((MemberSelectTree) tree).getExpression().toString().equals("this");
    }

    private boolean isArrayField(Tree tree) {
        String name = plainName(tree);
        return arrayFields.contains(name) && (isOfThis(tree) || !locals.contains(name));
    }

    private boolean isLocalArray(Tree tree) {
        return tree instanceof IdentifierTree && localArrays.contains(plainName(tree));
    }

    // Rule 1.

    @Override
    public Void visitPackage(PackageTree tree, Void none) {
        breaks(1, true, tree, "a package line");
        return null;
    }

    @Override
    public Void visitClass(ClassTree tree, Void none) {
        boolean second = unit.getTypeDecls().get(0) != tree;
        breaks(1, second || tree.getKind() != Tree.Kind.CLASS, tree, "a type beside the one class");
        breaks(1, tree.getExtendsClause() != null || !tree.getImplementsClause().isEmpty(), tree,
            "a type above the class");
        return super.visitClass(tree, none);
    }

    // Rules 2 and 3.

    @Override
    public Void visitImport(ImportTree tree, Void none) {
        breaks(3, true, tree, "an import");
        return null;
    }

    @Override
    public Void visitPrimitiveType(PrimitiveTypeTree tree, Void none) {
        boolean isVoid = tree.getPrimitiveTypeKind() == TypeKind.VOID;
        breaks(2, !isVoid && !TYPES.contains(tree.getPrimitiveTypeKind()), tree, "the type " + tree);
        return null;
    }

    @Override
    public Void visitLiteral(LiteralTree tree, Void none) {
        boolean fraction = tree.getKind() == Tree.Kind.DOUBLE_LITERAL
            || tree.getKind() == Tree.Kind.FLOAT_LITERAL;
        breaks(2, fraction || tree.getKind() == Tree.Kind.STRING_LITERAL, tree, "the value " + tree);
        breaks(4, tree.getKind() == Tree.Kind.NULL_LITERAL, tree, "null");
        return null;
    }

    @Override
    public Void visitVariable(VariableTree tree, Void none) {
        lookAtType(tree.getType());
        Tree parent = getCurrentPath().getParentPath().getLeaf();
        if (parent instanceof ClassTree) {
            lookAtStatic(tree);
        } else {
            locals.add(tree.getName().toString());
            if (isArray(tree)) {
                localArrays.add(tree.getName().toString());
            }
        }
        return super.visitVariable(tree, none);
    }

    private void lookAtType(Tree type) {
        Tree element = type;
        if (type != null && type.getKind() == Tree.Kind.ARRAY_TYPE) {
            element = ((ArrayTypeTree) type).getType();
        }
        breaks(2, element != null && element.getKind() != Tree.Kind.PRIMITIVE_TYPE, type, "the type " + type);
    }

    @Override
    public Void visitMemberSelect(MemberSelectTree tree, Void none) {
        String of = tree.getExpression().toString();
        boolean isLength = tree.getIdentifier().contentEquals("length");
        breaks(3, !of.equals("this") && !of.equals(className) && !isLength, tree, "use of " + tree);
        return super.visitMemberSelect(tree, none);
    }

    // Rule 4.

    @Override
    public Void visitNewClass(NewClassTree tree, Void none) {
        breaks(2, true, tree, "an object is made");
        return super.visitNewClass(tree, none);
    }

    @Override
    public Void visitNewArray(NewArrayTree tree, Void none) {
        MethodTree method = enclosingMethod();
        breaks(4, method != null && !inConstructor(), tree, "a method makes an array");
        breaks(4, isInside(LOOPS) || isInside(BRANCHES), tree, "an array is made in a loop or a branch");
        breaks(4, constructorHasCalled, tree, "an array is made after a call");
        breaks(2, tree.getDimensions().size() > 1, tree, "an array of arrays");
        for (ExpressionTree length : tree.getDimensions()) {
            breaks(4, !isConstant(length), length, "the length " + length);
        }
        return super.visitNewArray(tree, none);
    }

    /** A literal of 1 or more, or nothing but literals and constants. */
    private boolean isConstant(ExpressionTree length) {
        if (length instanceof LiteralTree) {
            Object value = ((LiteralTree) length).getValue();
            return value instanceof Integer && (Integer) value >= 1;
        }
        boolean[] constant = {true};
        new TreeScanner<Void, Void>() {
            @Override
            public Void visitIdentifier(IdentifierTree tree, Void none) {
                String name = tree.getName().toString();
                constant[0] &= constants.contains(name) || name.equals(className);
                return null;
            }

            @Override
            public Void visitMethodInvocation(MethodInvocationTree tree, Void none) {
                constant[0] = false;
                return null;
            }
        }.scan(length, null);
        return constant[0];
    }

    @Override
    public Void visitAssignment(AssignmentTree tree, Void none) {
        breaks(4, isArrayField(tree.getVariable()) && !inConstructor(), tree,
            "a method assigns to the array field " + tree.getVariable());
        breaks(4, isLocalArray(tree.getVariable()) && isInside(LOOPS), tree,
            "a local array changes in a loop");
        return super.visitAssignment(tree, none);
    }

    @Override
    public Void visitBinary(BinaryTree tree, Void none) {
        boolean arrays = isArrayField(tree.getLeftOperand()) || isLocalArray(tree.getLeftOperand())
            || isArrayField(tree.getRightOperand()) || isLocalArray(tree.getRightOperand());
        breaks(4, arrays, tree, "an array is compared");
        return super.visitBinary(tree, none);
    }

    // Rule 5.

    private void lookAtStatic(VariableTree field) {
        Set<Modifier> flags = field.getModifiers().getFlags();
        String type = String.valueOf(field.getType());
        boolean constant = flags.contains(Modifier.FINAL) && field.getInitializer() != null
            && (type.equals("int") || type.equals("long"));
        breaks(5, isStatic(flags) && !constant, field, "the static field " + field.getName());
    }

    @Override
    public Void visitBlock(BlockTree tree, Void none) {
        breaks(5, tree.isStatic(), tree, "a static initialiser");
        return super.visitBlock(tree, none);
    }

    // Rule 6.

    @Override
    public Void visitThrow(ThrowTree tree, Void none) {
        breaks(6, true, tree, "throw");
        return super.visitThrow(tree, none);
    }

    @Override
    public Void visitTry(TryTree tree, Void none) {
        breaks(6, true, tree, "try");
        return super.visitTry(tree, none);
    }

    @Override
    public Void visitSynchronized(SynchronizedTree tree, Void none) {
        breaks(6, true, tree, "synchronized");
        return super.visitSynchronized(tree, none);
    }

    @Override
    public Void visitAssert(AssertTree tree, Void none) {
        breaks(6, true, tree, "assert");
        return super.visitAssert(tree, none);
    }

    @Override
    public Void visitInstanceOf(InstanceOfTree tree, Void none) {
        breaks(6, true, tree, "instanceof");
        return super.visitInstanceOf(tree, none);
    }

    @Override
    public Void visitLambdaExpression(LambdaExpressionTree tree, Void none) {
        breaks(6, true, tree, "a lambda");
        return super.visitLambdaExpression(tree, none);
    }

    @Override
    public Void visitMemberReference(MemberReferenceTree tree, Void none) {
        breaks(6, true, tree, "a method reference");
        return super.visitMemberReference(tree, none);
    }

    @Override
    public Void visitTypeCast(TypeCastTree tree, Void none) {
        breaks(6, tree.getType().getKind() != Tree.Kind.PRIMITIVE_TYPE, tree, "the cast " + tree);
        return super.visitTypeCast(tree, none);
    }

    // Rule 8: the loops; lookAtCalls has the recursion.

    @Override
    public Void visitForLoop(ForLoopTree tree, Void none) {
        lookAtEnd(tree, tree.getCondition());
        return super.visitForLoop(tree, none);
    }

    @Override
    public Void visitWhileLoop(WhileLoopTree tree, Void none) {
        lookAtEnd(tree, tree.getCondition());
        return super.visitWhileLoop(tree, none);
    }

    @Override
    public Void visitDoWhileLoop(DoWhileLoopTree tree, Void none) {
        lookAtEnd(tree, tree.getCondition());
        return super.visitDoWhileLoop(tree, none);
    }

    /** Something that the loop compares, it must also change; without a condition, anywhere in it. */
    private void lookAtEnd(Tree loop, ExpressionTree condition) {
        Set<String> changed = new HashSet<>();
        collect(loop, new HashSet<>(), changed);
        Set<String> compared = new HashSet<>();
        boolean everTrue = condition == null || condition.toString().matches("\\(*true\\)*");
        collect(everTrue ? loop : condition, compared, new HashSet<>());
        compared.retainAll(changed);
        breaks(8, compared.isEmpty(), loop, "no end of the loop can be seen");
    }

    private static void collect(Tree part, Set<String> compared, Set<String> changed) {
        new TreeScanner<Void, Void>() {
            private boolean inComparison;

            @Override
            public Void visitBinary(BinaryTree tree, Void none) {
                boolean before = inComparison;
                inComparison = before || COMPARISONS.contains(tree.getKind());
                super.visitBinary(tree, none);
                inComparison = before;
                return null;
            }

            @Override
            public Void visitIdentifier(IdentifierTree tree, Void none) {
                if (inComparison) {
                    compared.add(tree.getName().toString());
                }
                return null;
            }

            @Override
            public Void visitAssignment(AssignmentTree tree, Void none) {
                changed.add(plainName(tree.getVariable()));
                return super.visitAssignment(tree, none);
            }

            @Override
            public Void visitCompoundAssignment(CompoundAssignmentTree tree, Void none) {
                changed.add(plainName(tree.getVariable()));
                return super.visitCompoundAssignment(tree, none);
            }

            @Override
            public Void visitUnary(UnaryTree tree, Void none) {
                if (CHANGES.contains(tree.getKind())) {
                    changed.add(plainName(tree.getExpression()));
                }
                return super.visitUnary(tree, none);
            }
        }.scan(part, null);
    }

    // Rule 10, and rule 3 and 8 for what is called.

    @Override
    public Void visitMethod(MethodTree tree, Void none) {
        locals = new HashSet<>();
        localArrays = new HashSet<>();
        constructorHasCalled = false;
        calls.putIfAbsent(nameOf(tree), new TreeSet<>());
        Tree answer = tree.getReturnType();
        breaks(4, answer != null && answer.getKind() == Tree.Kind.ARRAY_TYPE, tree, "an array is answered");
        breaks(2, answer != null && answer.getKind() != Tree.Kind.ARRAY_TYPE
            && answer.getKind() != Tree.Kind.PRIMITIVE_TYPE, tree, "the type " + answer);
        breaks(6, !tree.getThrows().isEmpty(), tree, "throws");
        breaks(6, tree.getModifiers().getFlags().contains(Modifier.SYNCHRONIZED), tree, "synchronized");
        int parameters = tree.getParameters().size();
        breaks(10, parameters > MOST_PARAMETERS, tree, parameters + " parameters");
        long lines = lineOf(tree, true) - lineOf(tree, false) + 1;
        breaks(10, lines > MOST_LINES, tree, tree.getName() + " has " + lines + " lines");
        super.visitMethod(tree, none);
        constructorHasCalled = false;
        return null;
    }

    @Override
    public Void visitMethodInvocation(MethodInvocationTree tree, Void none) {
        String select = tree.getMethodSelect().toString();
        if (select.equals("super")) {
            return null;
        }
        for (TreePath path = getCurrentPath().getParentPath(); path != null; path = path.getParentPath()) {
            breaks(10, path.getLeaf() instanceof MethodInvocationTree, tree,
                select + " is called inside the arguments of another call");
        }
        String name = select.replaceFirst("^(this|" + className + ")\\.", "")
            + "/" + tree.getArguments().size();
        breaks(3, !methodIsStatic.containsKey(name), tree, select + " is no method of the class");
        MethodTree caller = enclosingMethod();
        if (caller != null) {
            calls.computeIfAbsent(nameOf(caller), key -> new TreeSet<>()).add(name);
        }
        if (inConstructor() && !methodIsStatic.getOrDefault(name, true)) {
            constructorHasCalled = true;
            for (ExpressionTree argument : tree.getArguments()) {
                breaks(4, isArrayField(argument) || isLocalArray(argument), tree,
                    "the constructor hands an array on");
            }
        }
        return super.visitMethodInvocation(tree, none);
    }

    /** A path through more methods than there are has met one of them twice. */
    private void lookAtCalls() {
        List<String> last = new ArrayList<>(calls.keySet());
        for (int deep = 0; deep <= calls.size() && !last.isEmpty(); deep++) {
            if (deep == MOST_CALLS_DEEP + 1) {
                broken.add("rule 10: calls go " + deep + " deep or more, down to " + last);
            }
            Set<String> called = new TreeSet<>();
            for (String method : last) {
                called.addAll(calls.getOrDefault(method, Set.of()));
            }
            last = new ArrayList<>(called);
        }
        if (!last.isEmpty()) {
            broken.add("rule 8: recursion, through " + last);
        }
    }
}
