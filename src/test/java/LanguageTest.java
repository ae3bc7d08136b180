import com.sun.source.tree.ArrayAccessTree;
import com.sun.source.tree.AssignmentTree;
import com.sun.source.tree.BinaryTree;
import com.sun.source.tree.BlockTree;
import com.sun.source.tree.ClassTree;
import com.sun.source.tree.CompilationUnitTree;
import com.sun.source.tree.CompoundAssignmentTree;
import com.sun.source.tree.DoWhileLoopTree;
import com.sun.source.tree.ExpressionTree;
import com.sun.source.tree.ForLoopTree;
import com.sun.source.tree.LiteralTree;
import com.sun.source.tree.MethodInvocationTree;
import com.sun.source.tree.MethodTree;
import com.sun.source.tree.NewClassTree;
import com.sun.source.tree.Tree;
import com.sun.source.tree.TypeCastTree;
import com.sun.source.tree.UnaryTree;
import com.sun.source.tree.VariableTree;
import com.sun.source.tree.WhileLoopTree;
import com.sun.source.util.JavacTask;
import com.sun.source.util.TreePath;
import com.sun.source.util.TreePathScanner;
import com.sun.source.util.Trees;
import java.io.IOException;
import java.nio.file.Files;
import java.nio.file.Path;
import java.util.HashMap;
import java.util.HashSet;
import java.util.List;
import java.util.Map;
import java.util.Set;
import java.util.TreeSet;
import javax.lang.model.element.Element;
import javax.lang.model.element.ElementKind;
import javax.lang.model.element.ExecutableElement;
import javax.lang.model.element.Modifier;
import javax.lang.model.element.TypeElement;
import javax.lang.model.type.TypeKind;
import javax.lang.model.type.TypeMirror;
import javax.tools.JavaCompiler;
import javax.tools.StandardJavaFileManager;
import javax.tools.ToolProvider;

/**
 * The rules of LANGUAGE.md that can be read off the source, looked at in the compiler's own tree of
 * it. Run at the root. What is left to reading: that indices, divisors and references are looked at
 * before use (7), and that each loop ends (9). How much a run makes (12) is RoomTest's.
 */
public final class LanguageTest extends TreePathScanner<Void, Void> {
    private static final Path SOURCE = Path.of("src/main/java/RoundThrow.java");
    private static final int MOST_PARAMETERS = 7;
    private static final int MOST_LINES = 60;
    private static final int MOST_CLASSES = 12;
    private static final int MOST_FIELDS = 20;
    private static final int MOST_DEPTH = 8;

    private static final Set<String> TYPES = Set.of("int", "long", "short", "byte", "char", "boolean", "double",
            "float", "void", "java.lang.String", "java.lang.StringBuilder", "java.lang.Integer", "java.util.ArrayList",
            "java.util.List", "java.util.Iterator", "java.lang.Iterable", "java.lang.Comparable");
    private static final Set<String> STATIC_TYPES = Set.of("int", "long", "boolean", "char", "java.lang.String",
            "int[]", "long[]", "char[]", "byte[]");
    private static final Map<String, Set<String>> LIBRARY = Map.of(
            "java.lang.String", Set.of("length", "charAt", "isEmpty", "equals", "indexOf", "substring", "toCharArray",
                    "<init>"),
            "java.lang.StringBuilder", Set.of("<init>", "append", "charAt", "setCharAt", "setLength", "deleteCharAt",
                    "reverse", "length", "toString"),
            "java.util.ArrayList", Set.of("<init>", "add", "get", "set", "remove", "size", "isEmpty", "clear"),
            "java.util.List", Set.of("add", "get", "set", "remove", "size", "isEmpty", "clear", "of"),
            "java.lang.System", Set.of("arraycopy"),
            "java.util.Arrays", Set.of("copyOf", "copyOfRange", "fill"));
    // Of these any static function over int and long, but for those that throw.
    private static final Set<String> FUNCTIONS = Set.of("java.lang.Math", "java.lang.Integer", "java.lang.Long");

    private static final Map<Tree.Kind, String> LEFT_OUT = Map.of(
            Tree.Kind.THROW, "6: throw", Tree.Kind.TRY, "6: try", Tree.Kind.SYNCHRONIZED, "6: synchronized",
            Tree.Kind.ASSERT, "6: assert", Tree.Kind.LAMBDA_EXPRESSION, "2: lambda",
            Tree.Kind.MEMBER_REFERENCE, "2: method reference");

    private final Trees trees;
    private final CompilationUnitTree unit;
    private int classes = 0;
    private final Map<String, Set<String>> calls = new HashMap<>();

    private LanguageTest(Trees trees, CompilationUnitTree unit) {
        this.trees = trees;
        this.unit = unit;
    }

    public static void main(String[] args) throws IOException {
        boolean ascii = Files.readString(SOURCE).chars().allMatch(sign -> sign < 128);
        Script.due("rule 3: signs of the source", ascii ? 1 : 0, 1);
        JavaCompiler compiler = ToolProvider.getSystemJavaCompiler();
        try (StandardJavaFileManager files = compiler.getStandardFileManager(null, null, null)) {
            JavacTask task = (JavacTask) compiler.getTask(null, files, null, List.of("-proc:none"), null,
                    files.getJavaFileObjects(SOURCE));
            CompilationUnitTree unit = task.parse().iterator().next();
            task.analyze();
            Script.due("no package line", unit.getPackageName() == null ? 1 : 0, 1);
            LanguageTest test = new LanguageTest(Trees.instance(task), unit);
            test.scan(unit, null);
            Script.due("rule 11: classes", test.classes <= MOST_CLASSES ? 1 : 0, 1);
            test.callsAreShallow();
        }
        Script.end();
    }

    private void rule(String rule, Tree tree, boolean kept) {
        long line = unit.getLineMap().getLineNumber(trees.getSourcePositions().getStartPosition(unit, tree));
        Script.due("rule " + rule + ", line " + line, kept ? 1 : 0, 1);
    }

    private Element element(Tree tree) {
        return trees.getElement(new TreePath(getCurrentPath(), tree));
    }

    private TypeMirror type(Tree tree) {
        return trees.getTypeMirror(new TreePath(getCurrentPath(), tree));
    }

    private static boolean isOwn(String type) {
        return type.equals("RoundThrow") || type.startsWith("RoundThrow.");
    }

    private static boolean isAllowed(TypeMirror type) {
        String name = type.toString().replaceAll("<.*>", "");
        String part = name.replace("[]", "");
        int dimensions = (name.length() - part.length()) / 2;
        boolean isNumber = TYPES.contains(part) && !part.contains(".") && !part.equals("boolean");
        return type.getKind() == TypeKind.TYPEVAR || (TYPES.contains(part) || isOwn(part))
                && (dimensions <= 1 || dimensions == 2 && isNumber);
    }

    @Override
    public Void visitClass(ClassTree tree, Void nothing) {
        classes++;
        Element self = trees.getElement(getCurrentPath());
        Tree around = getCurrentPath().getParentPath().getLeaf();
        rule("2: no local or anonymous class", tree,
                around instanceof ClassTree || around instanceof CompilationUnitTree);
        if (around instanceof ClassTree) {
            Set<Modifier> modifiers = self.getModifiers();
            rule("2: static", tree, modifiers.contains(Modifier.STATIC) || self.getKind() != ElementKind.CLASS);
            rule("1: private or package-visible", tree,
                    !modifiers.contains(Modifier.PUBLIC) && !modifiers.contains(Modifier.PROTECTED));
        }
        long fields = tree.getMembers().stream().filter(member -> member instanceof VariableTree
                && !((VariableTree) member).getModifiers().getFlags().contains(Modifier.STATIC)).count();
        rule("11: fields", tree, fields <= MOST_FIELDS);
        for (Tree member : tree.getMembers()) {
            boolean isBlock = member instanceof BlockTree && ((BlockTree) member).isStatic();
            rule("5: no static initialiser block", member, !isBlock);
        }
        return super.visitClass(tree, nothing);
    }

    @Override
    public Void visitMethod(MethodTree tree, Void nothing) {
        rule("11: parameters", tree, tree.getParameters().size() <= MOST_PARAMETERS);
        rule("6: no exceptions", tree, tree.getThrows().isEmpty());
        long first = unit.getLineMap().getLineNumber(trees.getSourcePositions().getStartPosition(unit, tree));
        long end = trees.getSourcePositions().getEndPosition(unit, tree);
        rule("11: lines", tree, end < 0 || unit.getLineMap().getLineNumber(end) - first < MOST_LINES);
        String name = tree.getName().toString();
        rule("6: no equals, hashCode, toString of one's own", tree,
                !Set.of("equals", "hashCode", "toString").contains(name));
        if (tree.getReturnType() != null) {
            rule("3: " + tree.getReturnType(), tree, isAllowed(type(tree.getReturnType())));
        }
        return super.visitMethod(tree, nothing);
    }

    @Override
    public Void visitVariable(VariableTree tree, Void nothing) {
        Element self = trees.getElement(getCurrentPath());
        rule("3: " + self.asType(), tree, isAllowed(self.asType()));
        if (self.getKind() == ElementKind.FIELD && self.getModifiers().contains(Modifier.STATIC)) {
            rule("5: static fields are final", tree, self.getModifiers().contains(Modifier.FINAL));
            rule("5: " + self.asType(), tree, STATIC_TYPES.contains(self.asType().toString()) || isValues(tree));
            rule("5: written out", tree, tree.getInitializer() != null);
        }
        return super.visitVariable(tree, nothing);
    }

    /** An enum's values(), kept once (rule 12). */
    private static boolean isValues(VariableTree tree) {
        return tree.getInitializer() instanceof MethodInvocationTree
                && ((MethodInvocationTree) tree.getInitializer()).getMethodSelect().toString().endsWith("values");
    }

    @Override
    public Void visitMethodInvocation(MethodInvocationTree tree, Void nothing) {
        called(tree, (ExecutableElement) element(tree.getMethodSelect()));
        return super.visitMethodInvocation(tree, nothing);
    }

    @Override
    public Void visitNewClass(NewClassTree tree, Void nothing) {
        called(tree, (ExecutableElement) element(tree));
        return super.visitNewClass(tree, nothing);
    }

    private void called(Tree tree, ExecutableElement method) {
        String owner = ((TypeElement) method.getEnclosingElement()).getQualifiedName().toString();
        String name = method.getSimpleName().toString();
        boolean isFunction = FUNCTIONS.contains(owner) && method.getModifiers().contains(Modifier.STATIC)
                && !name.endsWith("Exact");
        boolean isBase = owner.equals("java.lang.Object") && name.equals("<init>") || owner.equals("java.lang.Record")
                || owner.equals("java.lang.Enum") || owner.equals("Array") && name.equals("clone");
        rule("4: " + owner + "." + name, tree, isOwn(owner) || isFunction || isBase
                || LIBRARY.getOrDefault(owner, Set.of()).contains(name));
        calls.computeIfAbsent(caller(), key -> new TreeSet<>()).add(signature(owner, method));
    }

    /** The method that is being looked at; what a field begins with belongs to the constructor. */
    private String caller() {
        for (TreePath path = getCurrentPath(); path != null; path = path.getParentPath()) {
            if (path.getLeaf() instanceof MethodTree) {
                ExecutableElement method = (ExecutableElement) trees.getElement(path);
                return signature(((TypeElement) method.getEnclosingElement()).getQualifiedName().toString(), method);
            }
            if (path.getLeaf() instanceof ClassTree) {
                return ((TypeElement) trees.getElement(path)).getQualifiedName() + ".<init>()";
            }
        }
        return "";
    }

    private static String signature(String owner, ExecutableElement method) {
        return owner + "." + method;
    }

    private void callsAreShallow() {
        Map<String, Integer> depths = new HashMap<>();
        for (String method : calls.keySet()) {
            int depth = depth(method, depths, new HashSet<>());
            Script.due("rule 11: calls below " + method, depth <= MOST_DEPTH ? 1 : 0, 1);
        }
    }

    /** How deep calls go, the method itself counted; one that calls itself again is not followed (rule 8). */
    private int depth(String method, Map<String, Integer> depths, Set<String> open) {
        if (depths.containsKey(method)) {
            return depths.get(method);
        }
        int deepest = 0;
        if (open.add(method)) {
            for (String next : calls.getOrDefault(method, Set.of())) {
                if (!next.equals("java.lang.Object.Object()")) {
                    deepest = Math.max(deepest, depth(next, depths, open));
                }
            }
            open.remove(method);
            depths.put(method, deepest + 1);
        }
        return deepest + 1;
    }

    @Override
    public Void visitBinary(BinaryTree tree, Void nothing) {
        String left = String.valueOf(type(tree.getLeftOperand()));
        String right = String.valueOf(type(tree.getRightOperand()));
        if (tree.getKind() == Tree.Kind.PLUS) {
            rule("10: texts are not joined by +", tree,
                    !left.equals("java.lang.String") && !right.equals("java.lang.String"));
        }
        if (tree.getKind() == Tree.Kind.EQUAL_TO || tree.getKind() == Tree.Kind.NOT_EQUAL_TO) {
            boolean boxes = left.equals(right) && Set.of("java.lang.String", "java.lang.Integer").contains(left);
            rule("6: no == of two Strings or Integers", tree, !boxes);
        }
        return super.visitBinary(tree, nothing);
    }

    @Override
    public Void visitAssignment(AssignmentTree tree, Void nothing) {
        constantsStay(tree.getVariable());
        return super.visitAssignment(tree, nothing);
    }

    @Override
    public Void visitCompoundAssignment(CompoundAssignmentTree tree, Void nothing) {
        constantsStay(tree.getVariable());
        return super.visitCompoundAssignment(tree, nothing);
    }

    @Override
    public Void visitUnary(UnaryTree tree, Void nothing) {
        if (Set.of(Tree.Kind.POSTFIX_INCREMENT, Tree.Kind.PREFIX_INCREMENT, Tree.Kind.POSTFIX_DECREMENT,
                Tree.Kind.PREFIX_DECREMENT).contains(tree.getKind())) {
            constantsStay(tree.getExpression());
        }
        return super.visitUnary(tree, nothing);
    }

    private void constantsStay(ExpressionTree changed) {
        if (changed instanceof ArrayAccessTree) {
            Element array = element(((ArrayAccessTree) changed).getExpression());
            boolean isConstant = array != null && array.getModifiers().contains(Modifier.STATIC);
            rule("5: constants never change", changed, !isConstant);
        }
    }

    @Override
    public Void visitTypeCast(TypeCastTree tree, Void nothing) {
        TypeMirror to = type(tree.getType());
        rule("6: casts", tree, to.getKind().isPrimitive() || isOwn(to.toString().replaceAll("<.*>", "")));
        return super.visitTypeCast(tree, nothing);
    }

    @Override
    public Void visitForLoop(ForLoopTree tree, Void nothing) {
        rule("9: a loop's end", tree, tree.getCondition() != null && !isTrue(tree.getCondition()));
        return super.visitForLoop(tree, nothing);
    }

    @Override
    public Void visitWhileLoop(WhileLoopTree tree, Void nothing) {
        rule("9: a loop's end", tree, !isTrue(tree.getCondition()));
        return super.visitWhileLoop(tree, nothing);
    }

    @Override
    public Void visitDoWhileLoop(DoWhileLoopTree tree, Void nothing) {
        rule("9: a loop's end", tree, !isTrue(tree.getCondition()));
        return super.visitDoWhileLoop(tree, nothing);
    }

    private static boolean isTrue(ExpressionTree condition) {
        return condition.toString().replaceAll("[()]", "").equals("true");
    }

    @Override
    public Void visitLiteral(LiteralTree tree, Void nothing) {
        if (tree.getValue() instanceof String) {
            boolean plain = ((String) tree.getValue()).chars().allMatch(sign -> sign >= 1 && sign <= 127);
            rule("4: constants' signs", tree, plain);
        }
        return super.visitLiteral(tree, nothing);
    }

    @Override
    public Void scan(Tree tree, Void nothing) {
        if (tree != null && LEFT_OUT.containsKey(tree.getKind())) {
            rule(LEFT_OUT.get(tree.getKind()), tree, false);
        }
        return super.scan(tree, nothing);
    }
}
