import com.sun.source.tree.*;
import com.sun.source.util.JavacTask;
import com.sun.source.util.TreePathScanner;
import com.sun.source.util.Trees;
import java.io.IOException;
import java.nio.file.Path;
import java.util.ArrayList;
import java.util.List;
import java.util.Map;
import java.util.Set;
import java.util.TreeMap;
import java.util.TreeSet;
import javax.lang.model.element.Element;
import javax.lang.model.element.ElementKind;
import javax.lang.model.element.ExecutableElement;
import javax.lang.model.element.Modifier;
import javax.lang.model.element.NestingKind;
import javax.lang.model.element.TypeElement;
import javax.lang.model.element.VariableElement;
import javax.lang.model.type.ArrayType;
import javax.lang.model.type.DeclaredType;
import javax.lang.model.type.TypeKind;
import javax.lang.model.type.TypeMirror;
import javax.tools.JavaCompiler;
import javax.tools.StandardJavaFileManager;
import javax.tools.ToolProvider;

/** Rules of LANGUAGE.md looked up in the source as the compiler reads it; what breaks one is listed. */
final class SourceRules extends TreePathScanner<Void, Void> {
    /** Of rule 4's list just what needs no room: no call of the class makes an object. */
    private static final Set<String> LIBRARY = Set.of("String.length", "String.charAt", "String.indexOf", "Integer.bitCount",
        "Long.bitCount", "Math.max", "Math.min", "Math.abs", "System.arraycopy");
    private static final Set<TypeKind> CONSTANTS = Set.of(TypeKind.INT, TypeKind.LONG, TypeKind.BOOLEAN, TypeKind.CHAR);
    private static final Set<TypeKind> ARRAY_CONSTANTS = Set.of(TypeKind.INT, TypeKind.LONG, TypeKind.CHAR, TypeKind.BYTE);
    private static final int MOST_LINES = 60;
    private static final int MOST_PARAMETERS = 7;
    private static final int MOST_CLASSES = 12;
    private static final int MOST_FIELDS = 20;

    private final List<String> broken = new ArrayList<>();
    private final Map<String, Set<String>> calls = new TreeMap<>();
    private final Set<String> publicMethods = new TreeSet<>();
    private final Trees trees;
    private final CompilationUnitTree unit;
    private int classes = 0;

    private SourceRules(Trees trees, CompilationUnitTree unit) {
        this.trees = trees;
        this.unit = unit;
    }

    static SourceRules of(Path source) throws IOException {
        JavaCompiler compiler = ToolProvider.getSystemJavaCompiler();
        try (StandardJavaFileManager files = compiler.getStandardFileManager(null, null, null)) {
            JavacTask task = (JavacTask) compiler.getTask(null, files, null, List.of("-proc:none"), null, files.getJavaFileObjects(source));
            CompilationUnitTree unit = task.parse().iterator().next();
            task.analyze();
            SourceRules rules = new SourceRules(Trees.instance(task), unit);
            rules.scan(unit, null);
            if (rules.classes > MOST_CLASSES) rules.broken.add("rule 11: " + rules.classes + " classes");
            return rules;
        }
    }

    List<String> broken() {
        return broken;
    }

    /** Which methods call which, in the file and of the library. */
    Map<String, Set<String>> calls() {
        return calls;
    }

    Set<String> publicMethods() {
        return publicMethods;
    }

    private void breaks(int rule, String what, Tree tree) {
        long line = unit.getLineMap().getLineNumber(trees.getSourcePositions().getStartPosition(unit, tree));
        broken.add("rule " + rule + ", line " + line + ": " + what);
    }

    @Override
    public Void visitCompilationUnit(CompilationUnitTree tree, Void none) {
        if (tree.getPackage() != null) breaks(1, "a package", tree);
        for (ImportTree one : tree.getImports()) breaks(4, "import", one);
        if (tree.getTypeDecls().size() != 1) breaks(1, "more than one class outside", tree);
        return super.visitCompilationUnit(tree, none);
    }

    @Override
    public Void visitClass(ClassTree tree, Void none) {
        classes++;
        TypeElement type = (TypeElement) trees.getElement(getCurrentPath());
        boolean outer = type.getNestingKind() == NestingKind.TOP_LEVEL;
        if (!outer && type.getNestingKind() != NestingKind.MEMBER) breaks(2, "a local or anonymous class", tree);
        if (!outer && !type.getModifiers().contains(Modifier.STATIC)) breaks(2, "a class inside that isn't static", tree);
        int fields = 0;
        for (Element member : type.getEnclosedElements()) {
            boolean constant = member.getModifiers().contains(Modifier.STATIC);
            if (member.getKind() == ElementKind.FIELD && !constant) fields++;
            if (member.getKind() == ElementKind.STATIC_INIT) breaks(5, "a static block", tree);
        }
        if (fields > MOST_FIELDS) breaks(11, fields + " fields", tree);
        return super.visitClass(tree, none);
    }

    @Override
    public Void visitMethod(MethodTree tree, Void none) {
        ExecutableElement method = (ExecutableElement) trees.getElement(getCurrentPath());
        calls.putIfAbsent(name(method), new TreeSet<>());
        if (method.getModifiers().contains(Modifier.PUBLIC)) publicMethods.add(name(method));
        if (tree.getParameters().size() > MOST_PARAMETERS) breaks(11, "parameters of " + name(method), tree);
        if (lines(tree) > MOST_LINES) breaks(11, name(method) + " is long", tree);
        if (!isAllowed(method.getReturnType())) breaks(3, name(method) + " answers " + method.getReturnType(), tree);
        return super.visitMethod(tree, none);
    }

    private long lines(Tree tree) {
        LineMap map = unit.getLineMap();
        long first = map.getLineNumber(trees.getSourcePositions().getStartPosition(unit, tree));
        return map.getLineNumber(trees.getSourcePositions().getEndPosition(unit, tree)) - first + 1;
    }

    @Override
    public Void visitVariable(VariableTree tree, Void none) {
        VariableElement variable = (VariableElement) trees.getElement(getCurrentPath());
        if (!isAllowed(variable.asType())) breaks(3, "type " + variable.asType(), tree);
        boolean isStatic = variable.getKind() == ElementKind.FIELD && variable.getModifiers().contains(Modifier.STATIC);
        if (isStatic && !isConstant(variable, tree)) breaks(5, "static " + variable, tree);
        return super.visitVariable(tree, none);
    }

    private static boolean isConstant(VariableElement variable, VariableTree tree) {
        if (!variable.getModifiers().contains(Modifier.FINAL)) return false;
        TypeMirror type = variable.asType();
        if (type instanceof ArrayType array) {
            boolean writtenOut = tree.getInitializer() instanceof NewArrayTree made && made.getInitializers() != null;
            return writtenOut && ARRAY_CONSTANTS.contains(array.getComponentType().getKind());
        }
        return variable.getConstantValue() != null && (CONSTANTS.contains(type.getKind()) || isString(type));
    }

    private boolean isAllowed(TypeMirror type) {
        if (type.getKind() == TypeKind.VOID || type.getKind().isPrimitive() || isString(type)) return true;
        if (type instanceof ArrayType array) {
            TypeMirror part = array.getComponentType();
            if (part instanceof ArrayType inner) return inner.getComponentType().getKind().isPrimitive();
            return part.getKind().isPrimitive() || isOwn(part);
        }
        return isOwn(type);
    }

    private static boolean isString(TypeMirror type) {
        return type.toString().equals("java.lang.String");
    }

    private boolean isOwn(TypeMirror type) {
        return type instanceof DeclaredType declared && isOwn(declared.asElement());
    }

    private boolean isOwn(Element element) {
        return element.toString().split("\\.")[0].equals("FuseMinutes");
    }

    private static String name(ExecutableElement method) {
        return method.getEnclosingElement().getSimpleName() + "." + method.getSimpleName();
    }

    @Override
    public Void visitMethodInvocation(MethodInvocationTree tree, Void none) {
        ExecutableElement called = (ExecutableElement) trees.getElement(getCurrentPath());
        boolean constructorOfObject = called.getKind() == ElementKind.CONSTRUCTOR;
        if (!constructorOfObject && !isOwn(called.getEnclosingElement()) && !LIBRARY.contains(name(called))) {
            breaks(4, name(called), tree);
        }
        MethodTree around = methodAround();
        if (around != null && !constructorOfObject) callsOf(around).add(name(called));
        if (around != null && isConstructor(around) && !constructorOfObject) breaks(12, "a constructor that calls", tree);
        return super.visitMethodInvocation(tree, none);
    }

    private Set<String> callsOf(MethodTree around) {
        ExecutableElement caller = (ExecutableElement) trees.getElement(trees.getPath(unit, around));
        return calls.computeIfAbsent(name(caller), key -> new TreeSet<>());
    }

    private MethodTree methodAround() {
        for (Tree tree : getCurrentPath()) {
            if (tree instanceof MethodTree method) return method;
        }
        return null;
    }

    private static boolean isConstructor(MethodTree method) {
        return method.getName().contentEquals("<init>");
    }

    @Override
    public Void visitNewClass(NewClassTree tree, Void none) {
        lookAtMaking(tree);
        return super.visitNewClass(tree, none);
    }

    @Override
    public Void visitNewArray(NewArrayTree tree, Void none) {
        lookAtMaking(tree);
        return super.visitNewArray(tree, none);
    }

    /** Stricter than rule 12: just constructors make objects. */
    private void lookAtMaking(Tree tree) {
        MethodTree around = methodAround();
        if (around != null && !isConstructor(around)) breaks(12, around.getName() + " makes an object", tree);
    }

    @Override
    public Void visitForLoop(ForLoopTree tree, Void none) {
        boolean counts = tree.getInitializer().size() == 1 && tree.getInitializer().get(0) instanceof VariableTree;
        counts = counts && tree.getCondition() != null && tree.getUpdate().size() == 1;
        if (!counts) {
            breaks(9, "a loop without a counter", tree);
            return super.visitForLoop(tree, none);
        }
        String counter = ((VariableTree) tree.getInitializer().get(0)).getName().toString();
        String update = tree.getUpdate().get(0).getExpression().toString();
        boolean moves = update.matches(counter + "(\\+\\+|--)") || update.matches(counter + " [-+]= [1-9]\\d*");
        if (!moves || !isBounded(tree.getCondition(), counter)) breaks(9, "a loop whose counter isn't bounded", tree);
        if (assigns(tree.getStatement(), counter)) breaks(9, "a loop that changes its counter", tree);
        return super.visitForLoop(tree, none);
    }

    /** One of what is joined by && has to compare the counter itself. */
    private static boolean isBounded(Tree condition, String counter) {
        if (condition instanceof ParenthesizedTree inside) return isBounded(inside.getExpression(), counter);
        if (!(condition instanceof BinaryTree binary)) return false;
        if (binary.getKind() == Tree.Kind.CONDITIONAL_AND) {
            return isBounded(binary.getLeftOperand(), counter) || isBounded(binary.getRightOperand(), counter);
        }
        Set<Tree.Kind> compare = Set.of(Tree.Kind.LESS_THAN, Tree.Kind.LESS_THAN_EQUAL, Tree.Kind.GREATER_THAN_EQUAL, Tree.Kind.GREATER_THAN);
        return compare.contains(binary.getKind()) && binary.getLeftOperand().toString().equals(counter);
    }

    private static boolean assigns(Tree body, String counter) {
        return body.toString().matches("(?s).*\\b" + counter + "(\\+\\+|--| ([-+*/%&|^]|<<|>>>?)?= ).*");
    }

    @Override
    public Void visitEnhancedForLoop(EnhancedForLoopTree tree, Void none) {
        breaks(9, "for over something isn't looked after here", tree);
        return super.visitEnhancedForLoop(tree, none);
    }

    @Override
    public Void visitWhileLoop(WhileLoopTree tree, Void none) {
        breaks(9, "while isn't looked after here", tree);
        return super.visitWhileLoop(tree, none);
    }

    @Override
    public Void visitDoWhileLoop(DoWhileLoopTree tree, Void none) {
        breaks(9, "do isn't looked after here", tree);
        return super.visitDoWhileLoop(tree, none);
    }

    @Override
    public Void visitBinary(BinaryTree tree, Void none) {
        boolean ofStrings = isString(typeOf(tree.getLeftOperand())) || isString(typeOf(tree.getRightOperand()));
        if (ofStrings) breaks(10, tree + " takes Strings", tree);
        return super.visitBinary(tree, none);
    }

    private TypeMirror typeOf(Tree tree) {
        return trees.getTypeMirror(trees.getPath(unit, tree));
    }

    @Override
    public Void visitTypeCast(TypeCastTree tree, Void none) {
        boolean ofNumbers = typeOf(tree.getType()).getKind().isPrimitive() && typeOf(tree.getExpression()).getKind().isPrimitive();
        if (!ofNumbers) breaks(6, tree + " isn't a cast of numbers", tree);
        return super.visitTypeCast(tree, none);
    }

    @Override
    public Void visitAssignment(AssignmentTree tree, Void none) {
        lookAtChanged(tree.getVariable());
        return super.visitAssignment(tree, none);
    }

    @Override
    public Void visitCompoundAssignment(CompoundAssignmentTree tree, Void none) {
        lookAtChanged(tree.getVariable());
        return super.visitCompoundAssignment(tree, none);
    }

    @Override
    public Void visitUnary(UnaryTree tree, Void none) {
        Set<Tree.Kind> changing = Set.of(Tree.Kind.POSTFIX_INCREMENT, Tree.Kind.POSTFIX_DECREMENT, Tree.Kind.PREFIX_INCREMENT, Tree.Kind.PREFIX_DECREMENT);
        if (changing.contains(tree.getKind())) lookAtChanged(tree.getExpression());
        return super.visitUnary(tree, none);
    }

    private void lookAtChanged(Tree changed) {
        Tree whole = changed instanceof ArrayAccessTree access ? access.getExpression() : changed;
        Element element = trees.getElement(trees.getPath(unit, whole));
        boolean isStatic = element != null && element.getModifiers().contains(Modifier.STATIC);
        if (isStatic) breaks(5, changed + " is changed", changed);
    }

    @Override
    public Void visitLiteral(LiteralTree tree, Void none) {
        String signs = tree.getValue() instanceof String text ? text : tree.getValue() instanceof Character c ? c.toString() : "";
        if (!signs.chars().allMatch(sign -> sign >= 1 && sign <= 127)) breaks(4, "signs of " + tree, tree);
        return super.visitLiteral(tree, none);
    }

    @Override
    public Void visitLambdaExpression(LambdaExpressionTree tree, Void none) {
        breaks(2, "a lambda", tree);
        return super.visitLambdaExpression(tree, none);
    }

    @Override
    public Void visitMemberReference(MemberReferenceTree tree, Void none) {
        breaks(2, "a method reference", tree);
        return super.visitMemberReference(tree, none);
    }

    @Override
    public Void visitThrow(ThrowTree tree, Void none) {
        breaks(6, "throw", tree);
        return super.visitThrow(tree, none);
    }

    @Override
    public Void visitTry(TryTree tree, Void none) {
        breaks(6, "try", tree);
        return super.visitTry(tree, none);
    }

    @Override
    public Void visitSynchronized(SynchronizedTree tree, Void none) {
        breaks(6, "synchronized", tree);
        return super.visitSynchronized(tree, none);
    }

    @Override
    public Void visitAssert(AssertTree tree, Void none) {
        breaks(6, "assert", tree);
        return super.visitAssert(tree, none);
    }
}
