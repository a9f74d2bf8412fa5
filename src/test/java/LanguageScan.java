import com.sun.source.tree.AssertTree;
import com.sun.source.tree.BinaryTree;
import com.sun.source.tree.BlockTree;
import com.sun.source.tree.ClassTree;
import com.sun.source.tree.CompilationUnitTree;
import com.sun.source.tree.CompoundAssignmentTree;
import com.sun.source.tree.DoWhileLoopTree;
import com.sun.source.tree.ExpressionTree;
import com.sun.source.tree.ForLoopTree;
import com.sun.source.tree.ImportTree;
import com.sun.source.tree.LambdaExpressionTree;
import com.sun.source.tree.LiteralTree;
import com.sun.source.tree.MemberReferenceTree;
import com.sun.source.tree.MethodInvocationTree;
import com.sun.source.tree.MethodTree;
import com.sun.source.tree.NewClassTree;
import com.sun.source.tree.PackageTree;
import com.sun.source.tree.ParenthesizedTree;
import com.sun.source.tree.SynchronizedTree;
import com.sun.source.tree.ThrowTree;
import com.sun.source.tree.Tree;
import com.sun.source.tree.TryTree;
import com.sun.source.tree.VariableTree;
import com.sun.source.tree.WhileLoopTree;
import com.sun.source.util.JavacTask;
import com.sun.source.util.TreePath;
import com.sun.source.util.TreePathScanner;
import com.sun.source.util.Trees;
import java.io.IOException;
import java.nio.file.Path;
import java.util.ArrayList;
import java.util.HashMap;
import java.util.LinkedHashSet;
import java.util.List;
import java.util.Map;
import java.util.Set;
import javax.lang.model.element.Element;
import javax.lang.model.element.ElementKind;
import javax.lang.model.element.ExecutableElement;
import javax.lang.model.element.Modifier;
import javax.lang.model.element.TypeElement;
import javax.lang.model.type.ArrayType;
import javax.lang.model.type.DeclaredType;
import javax.lang.model.type.TypeKind;
import javax.lang.model.type.TypeMirror;
import javax.tools.JavaCompiler;
import javax.tools.StandardJavaFileManager;
import javax.tools.ToolProvider;

/**
 * What in a file LANGUAGE.md does not leave, as the compiler's own tree shows it, each with the rule's
 * number. Of what the rules allow only what the class uses or might soon is let through: a new use may
 * need a word here.
 */
final class LanguageScan extends TreePathScanner<Void, Void> {
    private static final int MOST_PARAMETERS = 7;
    private static final int MOST_LINES = 60;
    private static final int DEEPEST = 8;
    private static final Set<String> LIBRARY = Set.of(
        "String.length", "String.charAt", "String.isEmpty", "String.equals", "String.indexOf", "String.substring",
        "String.toCharArray", "StringBuilder.append", "StringBuilder.charAt", "StringBuilder.setCharAt",
        "StringBuilder.setLength", "StringBuilder.deleteCharAt", "StringBuilder.reverse", "StringBuilder.length",
        "StringBuilder.toString", "ArrayList.add", "ArrayList.get", "ArrayList.set", "ArrayList.remove",
        "ArrayList.size", "ArrayList.isEmpty", "ArrayList.clear", "List.add", "List.get", "List.set", "List.remove",
        "List.size", "List.isEmpty", "List.clear", "List.of", "Integer.compare", "Integer.max", "Integer.min",
        "Integer.bitCount", "Long.compare", "Long.max", "Long.min", "Long.bitCount", "Math.max", "Math.min", "Math.abs",
        "Math.floorDiv", "Math.floorMod", "System.arraycopy", "Arrays.copyOf", "Arrays.copyOfRange", "Arrays.fill");
    private static final Set<String> TYPES = Set.of("java.lang.String", "java.lang.StringBuilder", "java.lang.Integer",
        "java.util.ArrayList", "java.util.List");
    private static final Set<String> OF_EVERY_OBJECT = Set.of("equals", "hashCode", "toString", "finalize", "clone");

    private final Trees trees;
    private final CompilationUnitTree file;
    private final List<String> found = new ArrayList<>();
    private final Map<Element, Set<Element>> calls = new HashMap<>();
    private int classes = 0;

    private LanguageScan(Trees trees, CompilationUnitTree file) {
        this.trees = trees;
        this.file = file;
    }

    /** All that is ruled out in a file, with its rule and line. */
    static List<String> of(Path path) throws IOException {
        JavaCompiler compiler = ToolProvider.getSystemJavaCompiler();
        try (StandardJavaFileManager files = compiler.getStandardFileManager(null, null, null)) {
            JavacTask task = (JavacTask) compiler.getTask(null, files, null, List.of("-proc:none"), null,
                files.getJavaFileObjects(path));
            CompilationUnitTree file = task.parse().iterator().next();
            task.analyze();
            LanguageScan scan = new LanguageScan(Trees.instance(task), file);
            scan.scan(file, null);
            scan.lookAtDepth();
            scan.rule(11, scan.classes > 12, file, "more than twelve classes");
            return scan.found;
        }
    }

    private void rule(int number, boolean broken, Tree at, String what) {
        if (broken) {
            found.add("rule " + number + ", line " + line(trees.getSourcePositions().getStartPosition(file, at)) + ": " + what);
        }
    }

    private long line(long position) {
        return position < 0 ? 0 : file.getLineMap().getLineNumber(position);
    }

    private Element elementOf(Tree tree) {
        return trees.getElement(new TreePath(getCurrentPath(), tree));
    }

    private TypeMirror typeOf(Tree tree) {
        return trees.getTypeMirror(new TreePath(getCurrentPath(), tree));
    }

    /** Whether it stands in the file itself. */
    private boolean isOwn(Element element) {
        return element != null && trees.getTree(element) != null;
    }

    // ---- classes and fields

    @Override
    public Void visitPackage(PackageTree tree, Void none) {
        rule(1, true, tree, "a package line");
        return super.visitPackage(tree, none);
    }

    @Override
    public Void visitImport(ImportTree tree, Void none) {
        String name = tree.getQualifiedIdentifier().toString();
        rule(4, !name.matches("java\\.util\\.(ArrayList|List|Arrays|Iterator)"), tree, "import of " + name);
        return super.visitImport(tree, none);
    }

    @Override
    public Void visitClass(ClassTree tree, Void none) {
        classes++;
        TypeElement type = (TypeElement) trees.getElement(getCurrentPath());
        Tree around = getCurrentPath().getParentPath().getLeaf();
        boolean isOuter = around.getKind() == Tree.Kind.COMPILATION_UNIT;
        boolean isMember = around instanceof ClassTree;
        rule(2, !isOuter && !isMember, tree, "a local or anonymous class");
        rule(2, isMember && !type.getModifiers().contains(Modifier.STATIC), tree, type + " is not static");
        rule(1, isMember && (type.getModifiers().contains(Modifier.PUBLIC)
            || type.getModifiers().contains(Modifier.PROTECTED)), tree, type + " is seen from outside");
        int fields = 0;
        for (Tree member : tree.getMembers()) {
            rule(5, member instanceof BlockTree && ((BlockTree) member).isStatic(), member, "a static block");
            boolean isField = member instanceof VariableTree
                && !((VariableTree) member).getModifiers().getFlags().contains(Modifier.STATIC);
            fields += isField ? 1 : 0;
        }
        rule(11, fields > 20, tree, type + " has more than twenty fields");
        return super.visitClass(tree, none);
    }

    @Override
    public Void visitVariable(VariableTree tree, Void none) {
        TypeMirror type = typeOf(tree.getType());
        rule(3, !isLeft(type), tree, tree.getName() + " is of " + type);
        Set<Modifier> flags = tree.getModifiers().getFlags();
        if (flags.contains(Modifier.STATIC)) {
            rule(5, !flags.contains(Modifier.FINAL), tree, tree.getName() + " is not final");
            rule(5, !type.toString().matches("(int|long|char|byte)(\\[\\])?|boolean|java\\.lang\\.String"), tree,
                tree.getName() + " is of " + type);
        }
        rule(1, flags.contains(Modifier.VOLATILE) || flags.contains(Modifier.TRANSIENT), tree, "a word that is not told");
        return super.visitVariable(tree, none);
    }

    private boolean isLeft(TypeMirror type) {
        if (type == null) {
            return false;
        }
        if (type.getKind() == TypeKind.VOID || type.getKind().isPrimitive()) {
            // The class needs none, so that no answer can be NaN.
            return type.getKind() != TypeKind.DOUBLE && type.getKind() != TypeKind.FLOAT;
        }
        if (type.getKind() == TypeKind.ARRAY) {
            TypeMirror of = ((ArrayType) type).getComponentType();
            boolean isOfNumbers = of.getKind() == TypeKind.ARRAY && ((ArrayType) of).getComponentType().getKind().isPrimitive();
            return isOfNumbers || of.getKind() != TypeKind.ARRAY && isLeft(of);
        }
        if (type.getKind() != TypeKind.DECLARED) {
            return false;
        }
        Element element = ((DeclaredType) type).asElement();
        return isOwn(element) || TYPES.contains(element.toString());
    }

    // ---- methods

    @Override
    public Void visitMethod(MethodTree tree, Void none) {
        ExecutableElement method = (ExecutableElement) trees.getElement(getCurrentPath());
        boolean isMade = method.getKind() == ElementKind.CONSTRUCTOR;
        rule(3, !isMade && !isLeft(method.getReturnType()), tree, method + " answers " + method.getReturnType());
        rule(6, OF_EVERY_OBJECT.contains(method.getSimpleName().toString()), tree, method + " is every object's");
        rule(6, !tree.getThrows().isEmpty(), tree, method + " throws");
        rule(11, tree.getParameters().size() > MOST_PARAMETERS, tree, method + " takes more than seven");
        long first = line(trees.getSourcePositions().getStartPosition(file, tree));
        long last = line(trees.getSourcePositions().getEndPosition(file, tree));
        rule(11, last - first + 1 > MOST_LINES, tree, method + " has more than sixty lines");
        calls.putIfAbsent(method, new LinkedHashSet<>());
        return super.visitMethod(tree, none);
    }

    @Override
    public Void visitMethodInvocation(MethodInvocationTree tree, Void none) {
        Element method = trees.getElement(getCurrentPath());
        if (isOwn(method)) {
            keepCall(method);
        } else if (!method.getSimpleName().contentEquals("<init>")) {
            String name = method.getEnclosingElement().getSimpleName() + "." + method.getSimpleName();
            rule(4, !LIBRARY.contains(name), tree, "a call of " + name);
        }
        return super.visitMethodInvocation(tree, none);
    }

    @Override
    public Void visitNewClass(NewClassTree tree, Void none) {
        rule(2, tree.getClassBody() != null, tree, "an anonymous class");
        rule(3, !isLeft(trees.getTypeMirror(getCurrentPath())), tree, "an object of " + tree.getIdentifier());
        Element constructor = trees.getElement(getCurrentPath());
        if (isOwn(constructor)) {
            keepCall(constructor);
        }
        return super.visitNewClass(tree, none);
    }

    private void keepCall(Element called) {
        for (TreePath path = getCurrentPath(); path != null; path = path.getParentPath()) {
            if (path.getLeaf() instanceof MethodTree) {
                calls.computeIfAbsent(trees.getElement(path), caller -> new LinkedHashSet<>()).add(called);
                return;
            }
        }
    }

    private void lookAtDepth() {
        for (Element method : calls.keySet()) {
            int depth = depth(method, new ArrayList<>());
            rule(11, depth > DEEPEST, trees.getTree(method), method + " goes " + depth + " calls deep, or calls itself");
        }
    }

    private int depth(Element method, List<Element> open) {
        if (open.contains(method)) {
            return 1000;
        }
        open.add(method);
        int deepest = 0;
        for (Element called : calls.getOrDefault(method, Set.of())) {
            deepest = Math.max(deepest, depth(called, open));
        }
        open.remove(open.size() - 1);
        return deepest + 1;
    }

    // ---- statements and expressions

    @Override
    public Void visitThrow(ThrowTree tree, Void none) {
        rule(6, true, tree, "throw");
        return super.visitThrow(tree, none);
    }

    @Override
    public Void visitTry(TryTree tree, Void none) {
        rule(6, true, tree, "try");
        return super.visitTry(tree, none);
    }

    @Override
    public Void visitSynchronized(SynchronizedTree tree, Void none) {
        rule(6, true, tree, "synchronized");
        return super.visitSynchronized(tree, none);
    }

    @Override
    public Void visitAssert(AssertTree tree, Void none) {
        rule(6, true, tree, "assert");
        return super.visitAssert(tree, none);
    }

    @Override
    public Void visitLambdaExpression(LambdaExpressionTree tree, Void none) {
        rule(2, true, tree, "a lambda");
        return super.visitLambdaExpression(tree, none);
    }

    @Override
    public Void visitMemberReference(MemberReferenceTree tree, Void none) {
        rule(2, true, tree, "a method reference");
        return super.visitMemberReference(tree, none);
    }

    @Override
    public Void visitBinary(BinaryTree tree, Void none) {
        boolean isOfTexts = isText(tree.getLeftOperand()) || isText(tree.getRightOperand());
        rule(10, tree.getKind() == Tree.Kind.PLUS && isOfTexts, tree, "texts joined by +");
        rule(6, (tree.getKind() == Tree.Kind.EQUAL_TO || tree.getKind() == Tree.Kind.NOT_EQUAL_TO) && isOfTexts, tree,
            "texts compared by == or !=");
        return super.visitBinary(tree, none);
    }

    @Override
    public Void visitCompoundAssignment(CompoundAssignmentTree tree, Void none) {
        rule(10, isText(tree.getVariable()), tree, "texts joined by +=");
        return super.visitCompoundAssignment(tree, none);
    }

    private boolean isText(ExpressionTree tree) {
        TypeMirror type = typeOf(tree);
        return type != null && (type.toString().equals("java.lang.String") || type.toString().equals("java.lang.Integer"));
    }

    @Override
    public Void visitLiteral(LiteralTree tree, Void none) {
        if (tree.getValue() instanceof String) {
            boolean isPlain = ((String) tree.getValue()).chars().allMatch(sign -> sign >= 1 && sign <= 127);
            rule(4, !isPlain, tree, "a sign beyond 1 to 127");
        }
        return super.visitLiteral(tree, none);
    }

    // ---- loops

    @Override
    public Void visitForLoop(ForLoopTree tree, Void none) {
        lookAtEnd(tree, tree.getCondition());
        return super.visitForLoop(tree, none);
    }

    @Override
    public Void visitWhileLoop(WhileLoopTree tree, Void none) {
        lookAtEnd(tree, tree.getCondition());
        return super.visitWhileLoop(tree, none);
    }

    @Override
    public Void visitDoWhileLoop(DoWhileLoopTree tree, Void none) {
        lookAtEnd(tree, tree.getCondition());
        return super.visitDoWhileLoop(tree, none);
    }

    private void lookAtEnd(Tree loop, ExpressionTree condition) {
        ExpressionTree bare = condition;
        while (bare instanceof ParenthesizedTree) {
            bare = ((ParenthesizedTree) bare).getExpression();
        }
        rule(9, bare == null || bare instanceof LiteralTree, loop, "a loop without an end");
    }
}
