import com.sun.source.tree.*;
import com.sun.source.util.JavacTask;
import com.sun.source.util.TreePath;
import com.sun.source.util.TreePathScanner;
import com.sun.source.util.TreeScanner;
import com.sun.source.util.Trees;
import java.io.IOException;
import java.net.URI;
import java.util.HashMap;
import java.util.HashSet;
import java.util.List;
import java.util.Map;
import java.util.Set;
import java.util.TreeSet;
import javax.lang.model.element.Element;
import javax.lang.model.element.ElementKind;
import javax.lang.model.element.Modifier;
import javax.lang.model.element.VariableElement;
import javax.lang.model.type.ArrayType;
import javax.lang.model.type.TypeKind;
import javax.lang.model.type.TypeMirror;
import javax.tools.JavaFileObject;
import javax.tools.SimpleJavaFileObject;
import javax.tools.ToolProvider;

/**
 * Finds what breaks the rules of LANGUAGE.md, as far as the compiler's tree tells it. Where a rule leaves
 * more than the class needs (other loops than a counting for, divisors that are not constants), this is stricter.
 * It does not look at indices (rule 7), nor at the order of arrays and calls in the constructor (rule 4).
 */
final class LanguageRules extends TreePathScanner<Void, Void> {
    private static final int MOST_PARAMETERS = 7;
    private static final int MOST_LINES = 60;
    private static final int DEEPEST_CALLS = 6;
    private static final int MOST_FIELDS = 40;
    private static final Set<Tree.Kind> LOOPS = Set.of(
        Tree.Kind.FOR_LOOP, Tree.Kind.ENHANCED_FOR_LOOP, Tree.Kind.WHILE_LOOP, Tree.Kind.DO_WHILE_LOOP);
    private static final Set<Tree.Kind> CONDITIONS = Set.of(
        Tree.Kind.IF, Tree.Kind.CONDITIONAL_EXPRESSION, Tree.Kind.SWITCH, Tree.Kind.SWITCH_EXPRESSION);

    private final Trees trees;
    private final Set<String> faults = new TreeSet<>();
    private final Map<String, Set<String>> calls = new HashMap<>();
    private final Set<String> publicNames = new HashSet<>();
    private final Set<String> privateNames = new HashSet<>();
    private CompilationUnitTree unit;

    private LanguageRules(Trees trees) {
        this.trees = trees;
    }

    /** The faults of a source of the class, each of which begins with its rule's number. */
    static Set<String> faults(String source) throws IOException {
        JavaFileObject file = new SimpleJavaFileObject(
                URI.create("string:///StreamAssembler.java"), JavaFileObject.Kind.SOURCE) {
            @Override
            public CharSequence getCharContent(boolean ignoreErrors) {
                return source;
            }
        };
        JavacTask task = (JavacTask) ToolProvider.getSystemJavaCompiler()
            .getTask(null, null, null, List.of("-proc:none"), null, List.of(file));
        LanguageRules rules = new LanguageRules(Trees.instance(task));
        Iterable<? extends CompilationUnitTree> units = task.parse();
        task.analyze();
        rules.scan(units, null);
        rules.lookAtNames();
        rules.lookAtCalls();
        return rules.faults;
    }

    private void fault(int rule, String what, Tree where) {
        long at = trees.getSourcePositions().getStartPosition(unit, where);
        faults.add(rule + ": " + what + ", line " + (at < 0 ? 0 : unit.getLineMap().getLineNumber(at)));
    }

    private TypeMirror type(Tree tree) {
        return trees.getTypeMirror(new TreePath(getCurrentPath(), tree));
    }

    private Element element(Tree tree) {
        return trees.getElement(new TreePath(getCurrentPath(), tree));
    }

    private boolean isArray(Tree tree) {
        TypeMirror type = type(tree);
        return type != null && type.getKind() == TypeKind.ARRAY;
    }

    private static boolean isNumberOrBoolean(TypeMirror type) {
        TypeKind kind = type.getKind();
        return kind.isPrimitive() && kind != TypeKind.FLOAT && kind != TypeKind.DOUBLE;
    }

    private boolean isField(Tree tree) {
        Element named = element(tree);
        return named != null && named.getKind() == ElementKind.FIELD;
    }

    /** The value of a literal or of a named constant, or null. */
    private Object constant(ExpressionTree tree) {
        if (tree instanceof LiteralTree literal) {
            return literal.getValue();
        }
        return element(tree) instanceof VariableElement variable ? variable.getConstantValue() : null;
    }

    private boolean isInside(Set<Tree.Kind> kinds) {
        for (Tree outer : getCurrentPath()) {
            if (kinds.contains(outer.getKind())) {
                return true;
            }
        }
        return false;
    }

    private MethodTree method() {
        for (Tree outer : getCurrentPath()) {
            if (outer instanceof MethodTree method) {
                return method;
            }
        }
        return null;
    }

    private static boolean isConstructor(MethodTree method) {
        return method.getName().contentEquals("<init>");
    }

    @Override
    public Void visitCompilationUnit(CompilationUnitTree tree, Void nothing) {
        unit = tree;
        if (tree.getPackage() != null || tree.getTypeDecls().size() != 1) {
            fault(1, "a package line, or not one class", tree);
        }
        if (!tree.getImports().isEmpty()) {
            fault(3, "an import", tree);
        }
        return super.visitCompilationUnit(tree, nothing);
    }

    @Override
    public Void visitClass(ClassTree tree, Void nothing) {
        boolean outermost = getCurrentPath().getParentPath().getLeaf() == unit;
        Set<Modifier> flags = tree.getModifiers().getFlags();
        if (!outermost || tree.getKind() != Tree.Kind.CLASS || !flags.equals(Set.of(Modifier.PUBLIC, Modifier.FINAL))) {
            fault(1, "a class other than the public final one", tree);
        }
        if (tree.getExtendsClause() != null || !tree.getImplementsClause().isEmpty()) {
            fault(3, "a class or an interface of the library", tree);
        }
        int fields = 0;
        for (Tree member : tree.getMembers()) {
            if (member instanceof BlockTree block && block.isStatic()) {
                fault(5, "a static initialiser", member);
            }
            if (member instanceof VariableTree field && !field.getModifiers().getFlags().contains(Modifier.STATIC)) {
                fields++;
            }
        }
        if (fields > MOST_FIELDS) {
            fault(10, fields + " fields", tree);
        }
        return super.visitClass(tree, nothing);
    }

    @Override
    public Void visitVariable(VariableTree tree, Void nothing) {
        VariableElement variable = (VariableElement) trees.getElement(getCurrentPath());
        TypeMirror type = variable.asType();
        TypeMirror part = type instanceof ArrayType array ? array.getComponentType() : type;
        if (!isNumberOrBoolean(part)) {
            fault(2, "a variable of type " + type, tree);
        }
        boolean wide = type.getKind() == TypeKind.INT || type.getKind() == TypeKind.LONG;
        if (variable.getModifiers().contains(Modifier.STATIC) && !(wide && variable.getConstantValue() != null)) {
            fault(5, "a static field that is no constant of int or long", tree);
        }
        return super.visitVariable(tree, nothing);
    }

    @Override
    public Void visitMethod(MethodTree tree, Void nothing) {
        Set<Modifier> flags = tree.getModifiers().getFlags();
        (flags.contains(Modifier.PRIVATE) ? privateNames : publicNames).add(tree.getName().toString());
        if (!isConstructor(tree)) {
            TypeMirror answer = type(tree.getReturnType());
            if (answer.getKind() == TypeKind.ARRAY) {
                fault(4, "a method that answers an array", tree);
            } else if (answer.getKind() != TypeKind.VOID && !isNumberOrBoolean(answer)) {
                fault(2, "a method that answers " + answer, tree);
            }
        }
        if (flags.contains(Modifier.SYNCHRONIZED) || !tree.getThrows().isEmpty()) {
            fault(6, "synchronized or throws", tree);
        }
        if (tree.getParameters().size() > MOST_PARAMETERS) {
            fault(10, "too many parameters", tree);
        }
        if (lines(tree) > MOST_LINES) {
            fault(10, "a method that is too long", tree);
        }
        calls.putIfAbsent(tree.getName().toString(), new TreeSet<>());
        return super.visitMethod(tree, nothing);
    }

    private long lines(MethodTree tree) {
        long first = trees.getSourcePositions().getStartPosition(unit, tree);
        long last = trees.getSourcePositions().getEndPosition(unit, tree);
        return unit.getLineMap().getLineNumber(last) - unit.getLineMap().getLineNumber(first) + 1;
    }

    @Override
    public Void visitMethodInvocation(MethodInvocationTree tree, Void nothing) {
        Element called = trees.getElement(getCurrentPath());
        MethodTree caller = method();
        // The compiler puts super() into the constructor.
        boolean implied = caller != null && isConstructor(caller) && tree.toString().equals("super()");
        if (!implied) {
            if (!called.getEnclosingElement().getSimpleName().contentEquals("StreamAssembler")) {
                fault(3, "a call of the library", tree);
            }
            String from = caller == null ? "<init>" : caller.getName().toString();
            calls.computeIfAbsent(from, name -> new TreeSet<>()).add(called.getSimpleName().toString());
        }
        CallFinder inside = new CallFinder();
        inside.scan(tree.getArguments(), null);
        if (inside.found) {
            fault(10, "a call inside the arguments of another", tree);
        }
        return super.visitMethodInvocation(tree, nothing);
    }

    private static final class CallFinder extends TreeScanner<Void, Void> {
        private boolean found;

        @Override
        public Void visitMethodInvocation(MethodInvocationTree tree, Void nothing) {
            found = true;
            return null;
        }
    }

    @Override
    public Void visitMemberSelect(MemberSelectTree tree, Void nothing) {
        boolean length = isArray(tree.getExpression()) && tree.getIdentifier().contentEquals("length");
        if (!length && !tree.getExpression().toString().equals("this")) {
            fault(3, tree.toString(), tree);
        }
        return super.visitMemberSelect(tree, nothing);
    }

    @Override
    public Void visitAnnotation(AnnotationTree tree, Void nothing) {
        fault(3, "an annotation", tree);
        return super.visitAnnotation(tree, nothing);
    }

    @Override
    public Void visitLiteral(LiteralTree tree, Void nothing) {
        switch (tree.getKind()) {
            case NULL_LITERAL -> fault(4, "null", tree);
            case STRING_LITERAL, FLOAT_LITERAL, DOUBLE_LITERAL -> fault(2, tree.toString(), tree);
            default -> { }
        }
        return super.visitLiteral(tree, nothing);
    }

    @Override
    public Void visitNewClass(NewClassTree tree, Void nothing) {
        fault(2, "an object", tree);
        return super.visitNewClass(tree, nothing);
    }

    @Override
    public Void visitNewArray(NewArrayTree tree, Void nothing) {
        MethodTree method = method();
        boolean inField = getCurrentPath().getParentPath().getParentPath().getLeaf() instanceof ClassTree;
        boolean inConstructor = method != null && isConstructor(method);
        if (!inField && !inConstructor || isInside(LOOPS) || isInside(CONDITIONS)) {
            fault(4, "an array made outside the start", tree);
        }
        boolean one = tree.getInitializers() == null && tree.getDimensions().size() == 1;
        Object length = one ? constant(tree.getDimensions().get(0)) : null;
        if (!(length instanceof Integer number) || number < 1) {
            fault(4, "an array whose length is not a literal or constant from 1 on", tree);
        }
        return super.visitNewArray(tree, nothing);
    }

    @Override
    public Void visitAssignment(AssignmentTree tree, Void nothing) {
        if (isArray(tree.getVariable())) {
            boolean inConstructor = method() != null && isConstructor(method());
            if (isField(tree.getVariable()) && !inConstructor || isInside(LOOPS)) {
                fault(4, "an array that is assigned", tree);
            }
        }
        return super.visitAssignment(tree, nothing);
    }

    @Override
    public Void visitBinary(BinaryTree tree, Void nothing) {
        Tree.Kind kind = tree.getKind();
        boolean equality = kind == Tree.Kind.EQUAL_TO || kind == Tree.Kind.NOT_EQUAL_TO;
        if (equality && (isArray(tree.getLeftOperand()) || isArray(tree.getRightOperand()))) {
            fault(4, "an array that is compared", tree);
        }
        if (kind == Tree.Kind.DIVIDE || kind == Tree.Kind.REMAINDER) {
            lookAtDivisor(tree.getRightOperand());
        }
        return super.visitBinary(tree, nothing);
    }

    @Override
    public Void visitCompoundAssignment(CompoundAssignmentTree tree, Void nothing) {
        Tree.Kind kind = tree.getKind();
        if (kind == Tree.Kind.DIVIDE_ASSIGNMENT || kind == Tree.Kind.REMAINDER_ASSIGNMENT) {
            lookAtDivisor(tree.getExpression());
        }
        return super.visitCompoundAssignment(tree, nothing);
    }

    private void lookAtDivisor(ExpressionTree divisor) {
        if (!(constant(divisor) instanceof Number number) || number.longValue() == 0) {
            fault(7, "a divisor that may be 0", divisor);
        }
    }

    @Override
    public Void visitThrow(ThrowTree tree, Void nothing) {
        fault(6, "throw", tree);
        return super.visitThrow(tree, nothing);
    }

    @Override
    public Void visitTry(TryTree tree, Void nothing) {
        fault(6, "try", tree);
        return super.visitTry(tree, nothing);
    }

    @Override
    public Void visitSynchronized(SynchronizedTree tree, Void nothing) {
        fault(6, "synchronized", tree);
        return super.visitSynchronized(tree, nothing);
    }

    @Override
    public Void visitAssert(AssertTree tree, Void nothing) {
        fault(6, "assert", tree);
        return super.visitAssert(tree, nothing);
    }

    @Override
    public Void visitInstanceOf(InstanceOfTree tree, Void nothing) {
        fault(6, "instanceof", tree);
        return super.visitInstanceOf(tree, nothing);
    }

    @Override
    public Void visitLambdaExpression(LambdaExpressionTree tree, Void nothing) {
        fault(6, "a lambda", tree);
        return super.visitLambdaExpression(tree, nothing);
    }

    @Override
    public Void visitMemberReference(MemberReferenceTree tree, Void nothing) {
        fault(6, "a method reference", tree);
        return super.visitMemberReference(tree, nothing);
    }

    @Override
    public Void visitTypeCast(TypeCastTree tree, Void nothing) {
        if (!type(tree.getType()).getKind().isPrimitive()) {
            fault(6, "a cast of a reference", tree);
        }
        return super.visitTypeCast(tree, nothing);
    }

    @Override
    public Void visitWhileLoop(WhileLoopTree tree, Void nothing) {
        fault(8, "a while loop", tree);
        return super.visitWhileLoop(tree, nothing);
    }

    @Override
    public Void visitDoWhileLoop(DoWhileLoopTree tree, Void nothing) {
        fault(8, "a do loop", tree);
        return super.visitDoWhileLoop(tree, nothing);
    }

    @Override
    public Void visitForLoop(ForLoopTree tree, Void nothing) {
        if (!counts(tree)) {
            fault(8, "a for loop that does not count up to a bound", tree);
        }
        return super.visitForLoop(tree, nothing);
    }

    /** Whether the loop is 'for (int c = ..; c < ..; c++)' and nothing in it assigns to c. */
    private static boolean counts(ForLoopTree tree) {
        if (tree.getInitializer().size() != 1 || tree.getUpdate().size() != 1 || tree.getCondition() == null) {
            return false;
        }
        if (!(tree.getInitializer().get(0) instanceof VariableTree counter)) {
            return false;
        }
        String name = counter.getName().toString();
        ChangeFinder body = new ChangeFinder(name);
        body.scan(tree.getStatement(), null);
        body.scan(tree.getCondition(), null);
        return tree.getCondition().toString().startsWith(name + " < ")
            && tree.getUpdate().get(0).toString().equals(name + "++;") && !body.found;
    }

    private static final class ChangeFinder extends TreeScanner<Void, Void> {
        private final String name;
        private boolean found;

        ChangeFinder(String name) {
            this.name = name;
        }

        private void change(Tree variable) {
            found = found || variable.toString().equals(name);
        }

        @Override
        public Void visitAssignment(AssignmentTree tree, Void nothing) {
            change(tree.getVariable());
            return super.visitAssignment(tree, nothing);
        }

        @Override
        public Void visitCompoundAssignment(CompoundAssignmentTree tree, Void nothing) {
            change(tree.getVariable());
            return super.visitCompoundAssignment(tree, nothing);
        }

        @Override
        public Void visitUnary(UnaryTree tree, Void nothing) {
            Tree.Kind kind = tree.getKind();
            if (kind != Tree.Kind.UNARY_MINUS && kind != Tree.Kind.UNARY_PLUS) {
                change(tree.getExpression());
            }
            return super.visitUnary(tree, nothing);
        }
    }

    private void lookAtNames() {
        for (String name : privateNames) {
            if (publicNames.contains(name)) {
                faults.add("1: a private method bears the public name " + name);
            }
        }
    }

    private void lookAtCalls() {
        for (String name : calls.keySet()) {
            // A row of calls that is longer than there are methods goes through one of them twice.
            int deep = depth(name, calls.size() + 1);
            if (deep > calls.size()) {
                faults.add("8: recursion from " + name);
            } else if (deep > DEEPEST_CALLS) {
                faults.add("10: calls go " + deep + " deep from " + name);
            }
        }
    }

    private int depth(String name, int most) {
        int deepest = 0;
        if (most > 1) {
            for (String called : calls.getOrDefault(name, Set.of())) {
                deepest = Math.max(deepest, depth(called, most - 1));
            }
        }
        return deepest + 1;
    }
}
