import com.sun.source.tree.*;
import com.sun.source.util.JavacTask;
import com.sun.source.util.TreePath;
import com.sun.source.util.TreePathScanner;
import com.sun.source.util.Trees;
import java.net.URI;
import java.util.ArrayList;
import java.util.List;
import java.util.Map;
import java.util.Set;
import java.util.TreeMap;
import java.util.TreeSet;
import javax.lang.model.element.Element;
import javax.lang.model.element.ElementKind;
import javax.lang.model.element.ExecutableElement;
import javax.lang.model.element.Modifier;
import javax.lang.model.element.TypeElement;
import javax.lang.model.type.ArrayType;
import javax.lang.model.type.DeclaredType;
import javax.lang.model.type.TypeKind;
import javax.lang.model.type.TypeMirror;
import javax.tools.JavaCompiler;
import javax.tools.JavaFileObject;
import javax.tools.SimpleJavaFileObject;
import javax.tools.ToolProvider;

/** The rules of LANGUAGE.md that a source's tree shows: which of them it breaks, and where. */
final class Law extends TreePathScanner<Void, Void> {
    private static final int MOST_CLASSES = 12;
    private static final int MOST_FIELDS = 20;
    private static final int MOST_PARAMETERS = 7;
    private static final int MOST_LINES = 60;
    private static final int MOST_CALLS_DEEP = 8;
    private static final Set<String> LISTED = Set.of(
            "String.length", "String.charAt", "String.isEmpty", "String.equals", "String.indexOf", "String.substring",
            "String.toCharArray", "StringBuilder.append", "StringBuilder.charAt", "StringBuilder.setCharAt",
            "StringBuilder.setLength", "StringBuilder.deleteCharAt", "StringBuilder.reverse", "StringBuilder.length",
            "StringBuilder.toString", "List.add", "List.get", "List.set", "List.remove", "List.size", "List.isEmpty",
            "List.clear", "List.of", "System.arraycopy", "Arrays.copyOf", "Arrays.copyOfRange", "Arrays.fill",
            "Object.clone", "Object.<init>");
    private static final Set<String> MAKEABLE = Set.of("String", "StringBuilder", "ArrayList");
    private static final Set<String> HOLDABLE = Set.of("String", "StringBuilder", "Integer", "ArrayList", "List");
    private static final Set<String> IMPORTABLE = Set.of("java.util.Arrays", "java.util.ArrayList", "java.util.List",
            "java.util.Iterator");

    private final Trees trees;
    private final CompilationUnitTree unit;
    private final List<String> breaches = new ArrayList<>();
    // By each method of the source, under its class, the methods that it calls; those of the library lead nowhere.
    private final Map<String, Set<String>> calls = new TreeMap<>();
    private final Set<String> guarded = new TreeSet<>();
    private final Set<String> withDepth = new TreeSet<>();
    private String method = "";
    private int classes = 0;

    private Law(Trees trees, CompilationUnitTree unit) {
        this.trees = trees;
        this.unit = unit;
    }

    /** What in the source breaks a rule, each as the rule's number and the line. */
    static List<String> breachesOf(String source) throws Exception {
        JavaFileObject file = new SimpleJavaFileObject(URI.create("string:///HeadHill.java"),
                JavaFileObject.Kind.SOURCE) {
            @Override
            public CharSequence getCharContent(boolean ignoreErrors) {
                return source;
            }
        };
        JavaCompiler compiler = ToolProvider.getSystemJavaCompiler();
        List<String> errors = new ArrayList<>();
        JavacTask task = (JavacTask) compiler.getTask(null, null, d -> {
            if (d.getKind() == javax.tools.Diagnostic.Kind.ERROR) {
                errors.add("it does not compile: " + d);
            }
        }, List.of("--release", "17", "-proc:none"), null, List.of(file));
        CompilationUnitTree unit = task.parse().iterator().next();
        task.analyze();
        Law law = new Law(Trees.instance(task), unit);
        law.breaches.addAll(errors);
        law.scan(unit, null);
        law.checkDepth();
        return law.breaches;
    }

    private void breach(int rule, String what, Tree at) {
        long place = trees.getSourcePositions().getStartPosition(unit, at);
        long line = place < 0 ? 0 : unit.getLineMap().getLineNumber(place);
        breaches.add("rule " + rule + ", line " + line + ": " + what);
    }

    private Element elementOf(Tree tree) {
        return trees.getElement(new TreePath(getCurrentPath(), tree));
    }

    private TypeMirror typeOf(Tree tree) {
        return trees.getTypeMirror(new TreePath(getCurrentPath(), tree));
    }

    private static boolean isOwn(Element element) {
        Element outer = element;
        while (outer != null && outer.getKind() != ElementKind.PACKAGE) {
            if (outer.getSimpleName().contentEquals("HeadHill")) {
                return true;
            }
            outer = outer.getEnclosingElement();
        }
        return false;
    }

    private static boolean isOwn(TypeMirror type) {
        return type instanceof DeclaredType declared && isOwn(declared.asElement());
    }

    private static boolean isNamed(TypeMirror type, String name) {
        return type instanceof DeclaredType declared && declared.asElement().getSimpleName().contentEquals(name);
    }

    // ---- rules 1, 2, 5 and 11: classes and what stands in them

    @Override
    public Void visitClass(ClassTree tree, Void none) {
        Tree parent = getCurrentPath().getParentPath().getLeaf();
        classes++;
        if (classes == MOST_CLASSES + 1) {
            breach(11, "more than some twelve classes", tree);
        }
        if (!(parent instanceof CompilationUnitTree) && !(parent instanceof ClassTree)) {
            breach(2, "a local or anonymous class", tree);
        }
        Set<Modifier> flags = tree.getModifiers().getFlags();
        if (parent instanceof ClassTree && tree.getKind() == Tree.Kind.CLASS && !flags.contains(Modifier.STATIC)) {
            breach(2, "a class inside that isn't static", tree);
        }
        int fields = 0;
        for (Tree member : tree.getMembers()) {
            if (member instanceof VariableTree field && !field.getModifiers().getFlags().contains(Modifier.STATIC)) {
                fields++;
            }
            if (member instanceof BlockTree block && block.isStatic()) {
                breach(5, "a static initialiser", block);
            }
        }
        if (fields > MOST_FIELDS) {
            breach(11, fields + " fields", tree);
        }
        return super.visitClass(tree, none);
    }

    @Override
    public Void visitVariable(VariableTree tree, Void none) {
        TypeMirror type = typeOf(tree);
        if (!isHoldable(type)) {
            breach(3, "type " + type, tree);
        }
        if (tree.getModifiers().getFlags().contains(Modifier.STATIC)) {
            checkStatic(tree, type);
        }
        return super.visitVariable(tree, none);
    }

    private static boolean isHoldable(TypeMirror type) {
        if (type instanceof ArrayType array) {
            TypeMirror part = array.getComponentType();
            boolean isRow = part instanceof ArrayType row && row.getComponentType().getKind().isPrimitive();
            return isRow || part.getKind().isPrimitive() || isOwn(part);
        }
        if (type instanceof DeclaredType declared && !isOwn(type)) {
            return HOLDABLE.contains(declared.asElement().getSimpleName().toString());
        }
        return type.getKind() != TypeKind.ERROR;
    }

    private void checkStatic(VariableTree tree, TypeMirror type) {
        boolean isRow = type instanceof ArrayType array
                && Set.of(TypeKind.INT, TypeKind.LONG, TypeKind.CHAR, TypeKind.BYTE)
                .contains(array.getComponentType().getKind());
        boolean isConstant = isNamed(type, "String")
                || Set.of(TypeKind.INT, TypeKind.LONG, TypeKind.BOOLEAN, TypeKind.CHAR).contains(type.getKind());
        if (!tree.getModifiers().getFlags().contains(Modifier.FINAL) || !isRow && !isConstant) {
            breach(5, "static state " + tree.getName(), tree);
        }
    }

    @Override
    public Void visitMethod(MethodTree tree, Void none) {
        method = nameOf((ExecutableElement) trees.getElement(getCurrentPath()));
        calls.computeIfAbsent(method, m -> new TreeSet<>());
        boolean carriesDepth = tree.getParameters().stream().anyMatch(p -> p.getName().contentEquals("depth"));
        if (carriesDepth && tree.getModifiers().getFlags().contains(Modifier.PRIVATE)) {
            withDepth.add(method);
        }
        guarded.clear();
        new Guards().scan(tree, null);
        if (tree.getParameters().size() > MOST_PARAMETERS) {
            breach(11, "more than seven parameters", tree);
        }
        long from = trees.getSourcePositions().getStartPosition(unit, tree);
        long to = trees.getSourcePositions().getEndPosition(unit, tree);
        if (from >= 0 && unit.getLineMap().getLineNumber(to) - unit.getLineMap().getLineNumber(from) >= MOST_LINES) {
            breach(11, "more than some sixty lines", tree);
        }
        return super.visitMethod(tree, none);
    }

    private static String nameOf(ExecutableElement called) {
        return called.getEnclosingElement().getSimpleName() + "." + called.getSimpleName();
    }

    // ---- rules 4 and 13: the library

    @Override
    public Void visitImport(ImportTree tree, Void none) {
        if (tree.isStatic() || !IMPORTABLE.contains(tree.getQualifiedIdentifier().toString())) {
            breach(4, "import " + tree.getQualifiedIdentifier(), tree);
        }
        return null;
    }

    @Override
    public Void visitMethodInvocation(MethodInvocationTree tree, Void none) {
        if (trees.getElement(getCurrentPath()) instanceof ExecutableElement called) {
            calls.computeIfAbsent(method, m -> new TreeSet<>()).add(nameOf(called));
            if (!isOwn(called) && !isListed(called)) {
                breach(4, "call of " + nameOf(called), tree);
            }
        }
        return super.visitMethodInvocation(tree, none);
    }

    private static boolean isListed(ExecutableElement called) {
        String owner = called.getEnclosingElement().getSimpleName().toString();
        String name = called.getSimpleName().toString();
        if (Set.of("Integer", "Long", "Math").contains(owner)) {
            return called.getModifiers().contains(Modifier.STATIC) && !name.endsWith("Exact")
                    && called.getReturnType().getKind().isPrimitive()
                    && called.getParameters().stream().allMatch(p -> Set.of(TypeKind.INT, TypeKind.LONG)
                    .contains(p.asType().getKind()));
        }
        boolean isList = Set.of("ArrayList", "Collection").contains(owner);
        return LISTED.contains((isList ? "List" : owner) + "." + name);
    }

    @Override
    public Void visitMemberSelect(MemberSelectTree tree, Void none) {
        checkField(trees.getElement(getCurrentPath()), tree);
        return super.visitMemberSelect(tree, none);
    }

    @Override
    public Void visitIdentifier(IdentifierTree tree, Void none) {
        checkField(trees.getElement(getCurrentPath()), tree);
        return super.visitIdentifier(tree, none);
    }

    private void checkField(Element element, Tree at) {
        boolean isField = element != null && element.getKind() == ElementKind.FIELD;
        if (isField && element.getEnclosingElement() instanceof TypeElement owner && !isOwn(owner)
                && !owner.getSimpleName().contentEquals("Array")) {
            breach(4, "field " + owner.getSimpleName() + "." + element.getSimpleName(), at);
        }
    }

    @Override
    public Void visitNewClass(NewClassTree tree, Void none) {
        if (trees.getElement(getCurrentPath()) instanceof ExecutableElement made) {
            calls.computeIfAbsent(method, m -> new TreeSet<>()).add(nameOf(made));
            if (!isOwn(made) && !MAKEABLE.contains(made.getEnclosingElement().getSimpleName().toString())) {
                breach(4, "new " + made.getEnclosingElement(), tree);
            }
        }
        return super.visitNewClass(tree, none);
    }

    @Override
    public Void visitLiteral(LiteralTree tree, Void none) {
        String signs = tree.getValue() instanceof String || tree.getValue() instanceof Character
                ? tree.getValue().toString() : "";
        if (signs.chars().anyMatch(sign -> sign < 1 || sign > 127)) {
            breach(4, "a constant with a sign that is not 1 to 127", tree);
        }
        return null;
    }

    // ---- rules 2, 6 and 10: forms

    @Override
    public Void visitLambdaExpression(LambdaExpressionTree tree, Void none) {
        breach(2, "a lambda", tree);
        return super.visitLambdaExpression(tree, none);
    }

    @Override
    public Void visitMemberReference(MemberReferenceTree tree, Void none) {
        breach(2, "a method reference", tree);
        return super.visitMemberReference(tree, none);
    }

    @Override
    public Void visitThrow(ThrowTree tree, Void none) {
        breach(6, "throw", tree);
        return super.visitThrow(tree, none);
    }

    @Override
    public Void visitTry(TryTree tree, Void none) {
        breach(6, "try", tree);
        return super.visitTry(tree, none);
    }

    @Override
    public Void visitSynchronized(SynchronizedTree tree, Void none) {
        breach(6, "synchronized", tree);
        return super.visitSynchronized(tree, none);
    }

    @Override
    public Void visitAssert(AssertTree tree, Void none) {
        breach(6, "assert", tree);
        return super.visitAssert(tree, none);
    }

    @Override
    public Void visitTypeCast(TypeCastTree tree, Void none) {
        if (!typeOf(tree.getType()).getKind().isPrimitive() && !guarded.contains(tree.getExpression().toString())) {
            breach(6, "a cast without a test", tree);
        }
        return super.visitTypeCast(tree, none);
    }

    @Override
    public Void visitSwitch(SwitchTree tree, Void none) {
        if (isNamed(typeOf(tree.getExpression()), "String")) {
            breach(10, "a switch on a text", tree);
        }
        return super.visitSwitch(tree, none);
    }

    @Override
    public Void visitBinary(BinaryTree tree, Void none) {
        TypeMirror left = typeOf(tree.getLeftOperand());
        TypeMirror right = typeOf(tree.getRightOperand());
        switch (tree.getKind()) {
            case PLUS -> {
                if (isNamed(left, "String") || isNamed(right, "String")) {
                    breach(10, "texts joined by +", tree);
                }
            }
            case EQUAL_TO, NOT_EQUAL_TO -> {
                if (isNamed(left, "String") && isNamed(right, "String")
                        || isNamed(left, "Integer") && isNamed(right, "Integer")) {
                    breach(6, "two texts or Integers by ==", tree);
                }
            }
            case DIVIDE, REMAINDER -> checkDivisor(tree.getRightOperand());
            default -> {
            }
        }
        return super.visitBinary(tree, none);
    }

    // ---- rule 7: divisors

    @Override
    public Void visitCompoundAssignment(CompoundAssignmentTree tree, Void none) {
        if (tree.getKind() == Tree.Kind.DIVIDE_ASSIGNMENT || tree.getKind() == Tree.Kind.REMAINDER_ASSIGNMENT) {
            checkDivisor(tree.getExpression());
        }
        if (tree.getKind() == Tree.Kind.PLUS_ASSIGNMENT && isNamed(typeOf(tree.getVariable()), "String")) {
            breach(10, "texts joined by +=", tree);
        }
        return super.visitCompoundAssignment(tree, none);
    }

    private void checkDivisor(ExpressionTree divisor) {
        boolean isNumber = divisor instanceof LiteralTree literal && !literal.getValue().toString().equals("0");
        if (!isNumber && !guarded.contains(divisor.toString())) {
            breach(7, "a divisor without a test: " + divisor, divisor);
        }
    }

    /** All that a method compares with something, or asks for its class. */
    private final class Guards extends com.sun.source.util.TreeScanner<Void, Void> {
        @Override
        public Void visitBinary(BinaryTree tree, Void none) {
            switch (tree.getKind()) {
                case EQUAL_TO, NOT_EQUAL_TO, LESS_THAN, LESS_THAN_EQUAL, GREATER_THAN, GREATER_THAN_EQUAL -> {
                    guarded.add(tree.getLeftOperand().toString());
                    guarded.add(tree.getRightOperand().toString());
                }
                default -> {
                }
            }
            return super.visitBinary(tree, none);
        }

        @Override
        public Void visitInstanceOf(InstanceOfTree tree, Void none) {
            guarded.add(tree.getExpression().toString());
            return super.visitInstanceOf(tree, none);
        }
    }

    // ---- rule 9: loops

    @Override
    public Void visitForLoop(ForLoopTree tree, Void none) {
        if (tree.getUpdate().isEmpty() || !moves(tree.getUpdate(), tree.getCondition())) {
            breach(9, "a for whose end can't be seen", tree);
        }
        return super.visitForLoop(tree, none);
    }

    @Override
    public Void visitWhileLoop(WhileLoopTree tree, Void none) {
        if (!moves(List.of(tree.getStatement()), tree.getCondition())) {
            breach(9, "a while whose end can't be seen", tree);
        }
        return super.visitWhileLoop(tree, none);
    }

    @Override
    public Void visitDoWhileLoop(DoWhileLoopTree tree, Void none) {
        if (!moves(List.of(tree.getStatement()), tree.getCondition())) {
            breach(9, "a do whose end can't be seen", tree);
        }
        return super.visitDoWhileLoop(tree, none);
    }

    /** Whether something that the condition compares is counted up or down. */
    private static boolean moves(List<? extends Tree> by, Tree condition) {
        if (condition == null) {
            return false;
        }
        Set<String> compared = new TreeSet<>();
        new com.sun.source.util.TreeScanner<Void, Void>() {
            @Override
            public Void visitIdentifier(IdentifierTree tree, Void none) {
                compared.add(tree.getName().toString());
                return null;
            }
        }.scan(condition, null);
        boolean[] moved = {false};
        new com.sun.source.util.TreeScanner<Void, Void>() {
            @Override
            public Void visitUnary(UnaryTree tree, Void none) {
                moved[0] |= tree.getKind() != Tree.Kind.LOGICAL_COMPLEMENT
                        && compared.contains(tree.getExpression().toString());
                return super.visitUnary(tree, none);
            }

            @Override
            public Void visitCompoundAssignment(CompoundAssignmentTree tree, Void none) {
                moved[0] |= compared.contains(tree.getVariable().toString());
                return super.visitCompoundAssignment(tree, none);
            }
        }.scan(by, null);
        return moved[0];
    }

    // ---- rules 8 and 11: how deep calls go

    @Override
    public Void visitCompilationUnit(CompilationUnitTree tree, Void none) {
        if (tree.getPackageName() != null) {
            breach(1, "a package line", tree);
        }
        return super.visitCompilationUnit(tree, none);
    }

    /** A method that calls itself is counted once; a ring of several is none that this class needs. */
    private void checkDepth() {
        for (String start : calls.keySet()) {
            if (calls.get(start).contains(start) && !withDepth.contains(start)) {
                breaches.add("rule 8: " + start + " calls itself without a depth");
            }
            int deep = depthOf(start, new ArrayList<>());
            if (deep > MOST_CALLS_DEEP) {
                breaches.add("rule 11: " + deep + " calls deep from " + start);
            }
        }
    }

    private int depthOf(String start, List<String> open) {
        if (open.contains(start)) {
            breaches.add("rule 8: a ring of calls " + open + " back to " + start);
            return 0;
        }
        open.add(start);
        int deepest = 0;
        for (String called : calls.getOrDefault(start, Set.of())) {
            if (!called.equals(start)) {
                deepest = Math.max(deepest, depthOf(called, open));
            }
        }
        open.remove(open.size() - 1);
        return deepest + 1;
    }
}
