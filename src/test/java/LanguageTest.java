import com.sun.source.tree.*;
import com.sun.source.util.JavacTask;
import com.sun.source.util.SourcePositions;
import com.sun.source.util.TreePath;
import com.sun.source.util.TreePathScanner;
import com.sun.source.util.Trees;
import java.nio.file.Path;
import java.util.HashMap;
import java.util.List;
import java.util.Map;
import java.util.Set;
import java.util.TreeSet;
import javax.lang.model.element.Element;
import javax.lang.model.element.ElementKind;
import javax.lang.model.element.ExecutableElement;
import javax.lang.model.element.Modifier;
import javax.lang.model.element.TypeElement;
import javax.lang.model.element.VariableElement;
import javax.lang.model.type.ArrayType;
import javax.lang.model.type.TypeKind;
import javax.lang.model.type.TypeMirror;
import javax.tools.JavaCompiler;
import javax.tools.StandardJavaFileManager;
import javax.tools.ToolProvider;

/**
 * The rules of ../shared/LANGUAGE.md, looked up in the tree that javac makes of FieldBand.java; the number ahead of
 * what is told is the rule's. Where the class keeps to less than a rule leaves it, that less is tested.
 */
public final class LanguageTest extends TreePathScanner<Void, Void> {
    private static final int MOST_CLASSES = 12, MOST_FIELDS = 20, MOST_PARAMETERS = 7, MOST_LINES = 60, DEEPEST = 8;

    private static final Set<String> LIBRARY = Set.of(
        "String.length", "String.charAt", "String.isEmpty", "String.equals", "String.indexOf", "String.substring",
        "String.toCharArray", "System.arraycopy",
        "Math.max", "Math.min", "Math.abs", "Math.floorDiv", "Math.floorMod",
        "Integer.compare", "Integer.bitCount", "Long.compare", "Long.bitCount");

    private final Trees trees;
    private final CompilationUnitTree unit;
    private final Map<String, Set<String>> calls = new HashMap<>();
    private final Map<String, Boolean> isPrivate = new HashMap<>();
    private int classes = 0;
    private int wrong = 0;

    private LanguageTest(Trees trees, CompilationUnitTree unit) {
        this.trees = trees;
        this.unit = unit;
    }

    public static void main(String[] args) throws Exception {
        Path source = Path.of(System.getProperty("fieldband.source", "src/main/java/FieldBand.java"));
        JavaCompiler compiler = ToolProvider.getSystemJavaCompiler();
        StandardJavaFileManager files = compiler.getStandardFileManager(null, null, null);
        JavacTask task = (JavacTask) compiler.getTask(null, files, null, List.of("-proc:none", "--release", "17"), null,
            files.getJavaFileObjects(source));
        CompilationUnitTree unit = task.parse().iterator().next();
        task.analyze();
        LanguageTest test = new LanguageTest(Trees.instance(task), unit);
        test.scan(unit, null);
        test.callGraph();
        test.check(test.classes > 1 && test.calls.size() > 29, unit, "0: the file was read");
        if (test.wrong != 0) System.exit(1);
    }

    private void check(boolean holds, Tree at, String rule) {
        if (!holds) {
            wrong++;
            long line = unit.getLineMap().getLineNumber(Math.max(0, positions().getStartPosition(unit, at)));
            System.out.println("line " + line + ", not so by rule " + rule);
        }
    }

    private SourcePositions positions() {
        return trees.getSourcePositions();
    }

    private Element elementOf(Tree tree) {
        return trees.getElement(new TreePath(getCurrentPath(), tree));
    }

    private TypeMirror typeOf(Tree tree) {
        return trees.getTypeMirror(new TreePath(getCurrentPath(), tree));
    }

    private static TypeElement classOf(Element element) {
        Element at = element;
        while (!(at instanceof TypeElement)) at = at.getEnclosingElement();
        return (TypeElement) at;
    }

    private static boolean isOwn(TypeElement type) {
        String name = type.getQualifiedName().toString();
        return name.equals("FieldBand") || name.startsWith("FieldBand.");
    }

    // ---- the file and its classes: rules 1, 2, 11

    @Override
    public Void visitCompilationUnit(CompilationUnitTree tree, Void none) {
        check(tree.getPackageName() == null, tree, "0: no package line");
        check(tree.getImports().isEmpty(), tree, "4: nothing is imported");
        check(tree.getTypeDecls().size() == 1, tree, "0: one class, all others in it");
        return super.visitCompilationUnit(tree, none);
    }

    @Override
    public Void visitClass(ClassTree tree, Void none) {
        classes++;
        check(classes <= MOST_CLASSES, tree, "11: some twelve classes at most");
        Tree around = getCurrentPath().getParentPath().getLeaf();
        Set<Modifier> flags = tree.getModifiers().getFlags();
        if (around instanceof CompilationUnitTree) {
            check(flags.equals(Set.of(Modifier.PUBLIC, Modifier.FINAL)), tree, "1: public and final");
        } else {
            check(around instanceof ClassTree && flags.contains(Modifier.STATIC), tree, "2: a class inside is static");
            check(!flags.contains(Modifier.PUBLIC) && !flags.contains(Modifier.PROTECTED), tree, "1: no public class inside");
        }
        int fields = 0;
        for (Tree member : tree.getMembers()) {
            check(!(member instanceof BlockTree), member, "5: no initialiser block");
            if (member instanceof VariableTree field && !isStatic(field)) fields++;
        }
        check(fields <= MOST_FIELDS, tree, "11: some twenty fields at most");
        return super.visitClass(tree, none);
    }

    private static boolean isStatic(VariableTree field) {
        return field.getModifiers().getFlags().contains(Modifier.STATIC);
    }

    @Override
    public Void visitMethod(MethodTree tree, Void none) {
        String name = tree.getName().toString();
        ExecutableElement method = (ExecutableElement) trees.getElement(getCurrentPath());
        check(tree.getParameters().size() <= MOST_PARAMETERS, tree, "11: seven parameters: " + name);
        check(tree.getThrows().isEmpty(), tree, "6: throws nothing: " + name);
        check(!Set.of("equals", "hashCode", "toString", "finalize").contains(name), tree, "6: no " + name);
        LineMap lines = unit.getLineMap();
        long first = lines.getLineNumber(Math.max(0, positions().getStartPosition(unit, tree)));
        long last = lines.getLineNumber(Math.max(0, positions().getEndPosition(unit, tree)));
        check(last - first < MOST_LINES, tree, "11: sixty lines: " + name);
        calls.putIfAbsent(nameOf(method), new TreeSet<>());
        isPrivate.put(nameOf(method), method.getModifiers().contains(Modifier.PRIVATE));
        return super.visitMethod(tree, none);
    }

    private static String nameOf(ExecutableElement method) {
        return classOf(method).getSimpleName() + "." + method;
    }

    // ---- types and static fields: rules 3, 5

    @Override
    public Void visitVariable(VariableTree tree, Void none) {
        Element variable = trees.getElement(getCurrentPath());
        check(isType(variable.asType()), tree, "3: a type that is left: " + tree.getName());
        if (variable.getKind() == ElementKind.FIELD && isStatic(tree)) {
            check(variable.getModifiers().contains(Modifier.FINAL), tree, "5: final: " + tree.getName());
            check(isConstant((VariableElement) variable, tree), tree, "5: a constant: " + tree.getName());
        }
        return super.visitVariable(tree, none);
    }

    private static boolean isType(TypeMirror type) {
        if (type.getKind() == TypeKind.ARRAY) {
            TypeMirror part = ((ArrayType) type).getComponentType();
            return part.getKind() != TypeKind.ARRAY && isType(part);
        }
        return type.getKind().isPrimitive() && type.getKind() != TypeKind.DOUBLE && type.getKind() != TypeKind.FLOAT
            || type.toString().equals("java.lang.String") || type.toString().startsWith("FieldBand");
    }

    private static boolean isConstant(VariableElement field, VariableTree tree) {
        boolean isWritten = tree.getInitializer() instanceof NewArrayTree row && row.getInitializers() != null;
        return field.getConstantValue() != null
            || isWritten && Set.of("int[]", "long[]", "char[]", "byte[]").contains(field.asType().toString());
    }

    @Override
    public Void visitLiteral(LiteralTree tree, Void none) {
        if (tree.getValue() instanceof String text) {
            check(text.chars().allMatch(c -> c >= 1 && c <= 127), tree, "4: signs 1 to 127");
        }
        return super.visitLiteral(tree, none);
    }

    // ---- what is left out: rules 2, 6

    @Override
    public Void visitLambdaExpression(LambdaExpressionTree tree, Void none) {
        check(false, tree, "2: no lambda");
        return super.visitLambdaExpression(tree, none);
    }

    @Override
    public Void visitMemberReference(MemberReferenceTree tree, Void none) {
        check(false, tree, "2: no method reference");
        return super.visitMemberReference(tree, none);
    }

    @Override
    public Void visitThrow(ThrowTree tree, Void none) {
        check(false, tree, "6: no throw");
        return super.visitThrow(tree, none);
    }

    @Override
    public Void visitTry(TryTree tree, Void none) {
        check(false, tree, "6: no try");
        return super.visitTry(tree, none);
    }

    @Override
    public Void visitSynchronized(SynchronizedTree tree, Void none) {
        check(false, tree, "6: no synchronized");
        return super.visitSynchronized(tree, none);
    }

    @Override
    public Void visitAssert(AssertTree tree, Void none) {
        check(false, tree, "6: no assert");
        return super.visitAssert(tree, none);
    }

    @Override
    public Void visitTypeCast(TypeCastTree tree, Void none) {
        check(typeOf(tree.getExpression()).getKind().isPrimitive(), tree, "6: no cast but among numbers");
        return super.visitTypeCast(tree, none);
    }

    // ---- calls and objects: rules 4, 12, 13

    @Override
    public Void visitMethodInvocation(MethodInvocationTree tree, Void none) {
        if (elementOf(tree.getMethodSelect()) instanceof ExecutableElement method) {
            TypeElement owner = classOf(method);
            String name = owner.getSimpleName() + "." + method.getSimpleName();
            boolean isConstructor = method.getKind() == ElementKind.CONSTRUCTOR;
            check(isConstructor || isOwn(owner) || LIBRARY.contains(name), tree, "4: of the library: " + name);
            if (isOwn(owner)) called(method);
        }
        return super.visitMethodInvocation(tree, none);
    }

    private void called(ExecutableElement method) {
        ExecutableElement caller = methodAround();
        if (caller != null) calls.computeIfAbsent(nameOf(caller), key -> new TreeSet<>()).add(nameOf(method));
    }

    private ExecutableElement methodAround() {
        for (TreePath at = getCurrentPath(); at != null; at = at.getParentPath()) {
            if (at.getLeaf() instanceof MethodTree) return (ExecutableElement) trees.getElement(at);
        }
        return null;
    }

    /** Fields are made with their object, too. */
    private boolean isInMaking() {
        ExecutableElement method = methodAround();
        return method == null || method.getKind() == ElementKind.CONSTRUCTOR;
    }

    @Override
    public Void visitNewClass(NewClassTree tree, Void none) {
        check(isInMaking(), tree, "12: objects are made in constructors alone");
        check(tree.getClassBody() == null, tree, "2: no anonymous class");
        return super.visitNewClass(tree, none);
    }

    @Override
    public Void visitNewArray(NewArrayTree tree, Void none) {
        check(isInMaking(), tree, "12: rows are made in constructors alone");
        return super.visitNewArray(tree, none);
    }

    // ---- arithmetic and loops: rules 7, 9, 10

    @Override
    public Void visitBinary(BinaryTree tree, Void none) {
        boolean isOfNumbers = typeOf(tree.getLeftOperand()).getKind().isPrimitive()
            && typeOf(tree.getRightOperand()).getKind().isPrimitive();
        check(isOfNumbers, tree, "6, 10: no text joined by +, no == of objects");
        if (tree.getKind() == Tree.Kind.DIVIDE || tree.getKind() == Tree.Kind.REMAINDER) {
            check(isAboveNought(tree.getRightOperand()), tree, "7: a divisor that is never 0");
        }
        return super.visitBinary(tree, none);
    }

    /** A constant, Math.max of 1 and another, or a variable that was made as such. */
    private boolean isAboveNought(ExpressionTree divisor) {
        if (divisor instanceof MethodInvocationTree call) {
            return call.toString().startsWith("Math.max(1, ");
        }
        if (!(elementOf(divisor) instanceof VariableElement variable)) return false;
        if (variable.getConstantValue() instanceof Integer value) return value > 0;
        return methodText().contains("int " + divisor + " = Math.max(1, ");
    }

    private String methodText() {
        for (TreePath at = getCurrentPath(); at != null; at = at.getParentPath()) {
            if (at.getLeaf() instanceof MethodTree method) return method.toString();
        }
        return "";
    }

    @Override
    public Void visitCompoundAssignment(CompoundAssignmentTree tree, Void none) {
        check(typeOf(tree.getVariable()).getKind().isPrimitive(), tree, "10: no text joined by +=");
        boolean divides = tree.getKind() == Tree.Kind.DIVIDE_ASSIGNMENT || tree.getKind() == Tree.Kind.REMAINDER_ASSIGNMENT;
        check(!divides, tree, "7: no division in place");
        return super.visitCompoundAssignment(tree, none);
    }

    /** A counter of its own, that goes by one, against a bound. */
    @Override
    public Void visitForLoop(ForLoopTree tree, Void none) {
        boolean hasCounter = tree.getInitializer().size() == 1 && tree.getUpdate().size() == 1
            && tree.getInitializer().get(0) instanceof VariableTree;
        check(hasCounter, tree, "9: a loop with a counter");
        if (hasCounter) {
            String counter = ((VariableTree) tree.getInitializer().get(0)).getName().toString();
            String update = tree.getUpdate().get(0).getExpression().toString();
            String condition = String.valueOf(tree.getCondition());
            String sign = update.equals(counter + "++") ? " <=? " : " >= ";
            check(update.equals(counter + "++") || update.equals(counter + "--"), tree, "9: a counter that goes by one");
            check(condition.matches("(.*\\W)?" + counter + sign + ".*"), tree, "9: a counter against a bound");
            check(!tree.getStatement().toString().matches("(?s).*\\b" + counter + "(\\+\\+|--| [-+]?= ).*"), tree, "9: a counter of its own");
        }
        return super.visitForLoop(tree, none);
    }

    @Override
    public Void visitWhileLoop(WhileLoopTree tree, Void none) {
        String condition = tree.getCondition().toString();
        check(condition.matches("\\((\\w+) < .*") && tree.getStatement().toString().contains(condition.replaceAll("\\((\\w+) < .*", "$1") + "++"),
            tree, "9: a counter against a bound");
        return super.visitWhileLoop(tree, none);
    }

    @Override
    public Void visitDoWhileLoop(DoWhileLoopTree tree, Void none) {
        check(false, tree, "9: no loop but for and while");
        return super.visitDoWhileLoop(tree, none);
    }

    // ---- who calls whom: rules 8, 11

    private void callGraph() {
        Map<String, Set<String>> reached = new HashMap<>();
        for (String method : calls.keySet()) reached.put(method, reachedFrom(method));
        for (String method : calls.keySet()) {
            boolean isRecursive = reached.get(method).contains(method);
            check(!isRecursive || isPrivate.get(method), unit, "8: recursive and private: " + method);
            check(depthFrom(method, reached) <= DEEPEST, unit, "11: eight calls deep: " + method);
        }
    }

    private Set<String> reachedFrom(String method) {
        Set<String> found = new TreeSet<>();
        TreeSet<String> open = new TreeSet<>(calls.get(method));
        while (!open.isEmpty()) {
            String next = open.pollFirst();
            if (found.add(next)) open.addAll(calls.getOrDefault(next, Set.of()));
        }
        return found;
    }

    /** Methods that call one another count as one. */
    private int depthFrom(String method, Map<String, Set<String>> reached) {
        int deepest = 0;
        for (String next : reached.get(method)) {
            boolean callsBack = reached.getOrDefault(next, Set.of()).contains(method);
            if (!callsBack) deepest = Math.max(deepest, depthFrom(next, reached));
        }
        return 1 + deepest;
    }
}
