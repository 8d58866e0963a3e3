import com.sun.source.tree.ArrayTypeTree;
import com.sun.source.tree.AssertTree;
import com.sun.source.tree.ClassTree;
import com.sun.source.tree.CompilationUnitTree;
import com.sun.source.tree.DoWhileLoopTree;
import com.sun.source.tree.ForLoopTree;
import com.sun.source.tree.LambdaExpressionTree;
import com.sun.source.tree.LiteralTree;
import com.sun.source.tree.MemberReferenceTree;
import com.sun.source.tree.MethodInvocationTree;
import com.sun.source.tree.MethodTree;
import com.sun.source.tree.NewArrayTree;
import com.sun.source.tree.NewClassTree;
import com.sun.source.tree.SynchronizedTree;
import com.sun.source.tree.ThrowTree;
import com.sun.source.tree.Tree;
import com.sun.source.tree.TryTree;
import com.sun.source.tree.TypeCastTree;
import com.sun.source.tree.VariableTree;
import com.sun.source.tree.WhileLoopTree;
import com.sun.source.util.JavacTask;
import com.sun.source.util.SourcePositions;
import com.sun.source.util.TreePath;
import com.sun.source.util.TreePathScanner;
import com.sun.source.util.Trees;
import java.io.IOException;
import java.net.URI;
import java.util.ArrayList;
import java.util.HashSet;
import java.util.LinkedHashMap;
import java.util.LinkedHashSet;
import java.util.List;
import java.util.Map;
import java.util.Set;
import java.util.TreeSet;
import javax.lang.model.element.Element;
import javax.lang.model.element.ElementKind;
import javax.lang.model.element.ExecutableElement;
import javax.lang.model.element.Modifier;
import javax.lang.model.element.TypeElement;
import javax.lang.model.type.ArrayType;
import javax.lang.model.type.DeclaredType;
import javax.lang.model.type.TypeMirror;
import javax.tools.JavaCompiler;
import javax.tools.JavaFileObject;
import javax.tools.SimpleJavaFileObject;
import javax.tools.ToolProvider;

/**
 * Those rules of LANGUAGE.md that can be seen from the compiler's tree of a source. Where the rules
 * allow more than the program uses (texts, lists, enums, objects made in calls), this is narrower.
 */
final class Rules extends TreePathScanner<Void, Void> {
    private static final int MOST_LINES = 60;
    private static final int MOST_PARAMETERS = 7;
    private static final int MOST_CLASSES = 12;
    private static final int MOST_FIELDS = 20;
    private static final int MOST_DEEP = 8;

    private final CompilationUnitTree unit;
    private final Trees trees;
    private final Set<String> broken = new TreeSet<>();
    private final Set<String> openNames = new HashSet<>();
    private final Set<String> hiddenNames = new HashSet<>();
    private final Map<Element, Set<Element>> calls = new LinkedHashMap<>();
    private int classes = 0;

    private Rules(CompilationUnitTree unit, Trees trees) {
        this.unit = unit;
        this.trees = trees;
    }

    /** What breaks a rule in the source, each with the rule's number in front. */
    static Set<String> brokenIn(String source) throws IOException {
        JavaCompiler compiler = ToolProvider.getSystemJavaCompiler();
        JavaFileObject file = new SimpleJavaFileObject(URI.create("string:///GlassPlanner.java"),
                JavaFileObject.Kind.SOURCE) {
            @Override
            public CharSequence getCharContent(boolean ignoreEncodingErrors) {
                return source;
            }
        };
        List<String> options = List.of("--release", "17");
        JavacTask task = (JavacTask) compiler.getTask(null, null, null, options, null,
                List.of(file));
        CompilationUnitTree unit = task.parse().iterator().next();
        task.analyze();
        Rules rules = new Rules(unit, Trees.instance(task));
        rules.scan(unit, null);
        rules.checkWhole(source);
        return rules.broken;
    }

    private void refuse(int rule, String what) {
        broken.add("rule " + rule + ": " + what);
    }

    private void refuseIf(boolean wrong, int rule, String what) {
        if (wrong) {
            refuse(rule, what);
        }
    }

    private void checkWhole(String source) {
        refuseIf(unit.getPackageName() != null, 1, "a package line");
        refuseIf(!unit.getImports().isEmpty(), 4, "an import");
        refuseIf(unit.getTypeDecls().size() != 1, 1, "not one class in the file");
        refuseIf(classes > MOST_CLASSES, 11, "too many classes: " + classes);
        refuseIf(source.chars().anyMatch(sign -> sign > 126), 4, "a sign beyond 126");
        for (String name : hiddenNames) {
            refuseIf(openNames.contains(name), 1, "a hidden method is called " + name);
        }
        for (Element method : calls.keySet()) {
            checkRecursion(method);
            int deep = depth(method, new HashSet<>());
            refuseIf(deep > MOST_DEEP, 11, "calls go " + deep + " deep from " + method);
        }
    }

    // ---- classes and fields

    @Override
    public Void visitClass(ClassTree tree, Void unused) {
        classes++;
        String name = tree.getSimpleName().toString();
        Set<Modifier> modifiers = tree.getModifiers().getFlags();
        boolean outer = getCurrentPath().getParentPath().getLeaf() == unit;
        if (outer) {
            refuseIf(!modifiers.contains(Modifier.PUBLIC) || !modifiers.contains(Modifier.FINAL), 1,
                    name + " is not public and final");
        } else {
            boolean member = getCurrentPath().getParentPath().getLeaf() instanceof ClassTree;
            refuseIf(!member, 2, "a local or anonymous class: " + name);
            refuseIf(!modifiers.contains(Modifier.STATIC), 2, name + " is not static");
            refuseIf(modifiers.contains(Modifier.PUBLIC) || modifiers.contains(Modifier.PROTECTED),
                    1, name + " can be seen");
        }
        int fields = 0;
        for (Tree member : tree.getMembers()) {
            if (member instanceof VariableTree field) {
                boolean constant = field.getModifiers().getFlags().contains(Modifier.STATIC);
                fields += constant ? 0 : 1;
            }
            refuseIf(member.getKind() == Tree.Kind.BLOCK, 5, "an initialiser block in " + name);
        }
        refuseIf(fields > MOST_FIELDS, 11, name + " has too many fields: " + fields);
        return super.visitClass(tree, unused);
    }

    @Override
    public Void visitVariable(VariableTree tree, Void unused) {
        Set<Modifier> modifiers = tree.getModifiers().getFlags();
        boolean field = getCurrentPath().getParentPath().getLeaf() instanceof ClassTree;
        TypeMirror type = trees.getTypeMirror(getCurrentPath());
        refuseIf(!isKnown(type), 3, tree.getName() + " is of the type " + type);
        if (field && modifiers.contains(Modifier.STATIC)) {
            refuseIf(!modifiers.contains(Modifier.FINAL) || !type.getKind().isPrimitive(), 5,
                    tree.getName() + " is no constant number");
        }
        if (field && isOuter(enclosingClass())) {
            boolean hidden = modifiers.contains(Modifier.PRIVATE);
            boolean constant = modifiers.contains(Modifier.PUBLIC)
                    && modifiers.contains(Modifier.STATIC);
            refuseIf(!hidden && !constant, 1, tree.getName() + " can be seen");
        }
        return super.visitVariable(tree, unused);
    }

    /** Numbers, truth values, arrays of them, classes of the file and arrays of these. */
    private boolean isKnown(TypeMirror type) {
        if (type instanceof ArrayType array) {
            TypeMirror of = array.getComponentType();
            return !(of instanceof ArrayType) && isKnown(of);
        }
        if (type instanceof DeclaredType declared) {
            return isOwn(declared.asElement());
        }
        return type != null && type.getKind().isPrimitive();
    }

    private boolean isOwn(Element element) {
        for (Element at = element; at != null; at = at.getEnclosingElement()) {
            if (isOuter(at)) {
                return true;
            }
        }
        return false;
    }

    private boolean isOuter(Element element) {
        TreePath first = new TreePath(new TreePath(unit), unit.getTypeDecls().get(0));
        return element != null && element.equals(trees.getElement(first));
    }

    private Element enclosingClass() {
        TreePath path = getCurrentPath();
        while (!(path.getLeaf() instanceof ClassTree)) {
            path = path.getParentPath();
        }
        return trees.getElement(path);
    }

    private ExecutableElement enclosingMethod() {
        for (TreePath path = getCurrentPath(); path != null; path = path.getParentPath()) {
            if (path.getLeaf() instanceof MethodTree) {
                return (ExecutableElement) trees.getElement(path);
            }
        }
        return null;
    }

    // ---- methods and calls

    @Override
    public Void visitMethod(MethodTree tree, Void unused) {
        String name = tree.getName().toString();
        Set<Modifier> modifiers = tree.getModifiers().getFlags();
        boolean open = modifiers.contains(Modifier.PUBLIC) && isOuter(enclosingClass());
        (open ? openNames : hiddenNames).add(name);
        boolean inOuter = isOuter(enclosingClass());
        refuseIf(inOuter && !open && !modifiers.contains(Modifier.PRIVATE), 1,
                name + " can be seen");
        refuseIf(tree.getParameters().size() > MOST_PARAMETERS, 11, name + " has too many"
                + " parameters");
        int lines = lines(tree);
        refuseIf(lines > MOST_LINES, 11, name + " has " + lines + " lines");
        refuseIf(!tree.getThrows().isEmpty(), 6, name + " throws");
        refuseIf(modifiers.contains(Modifier.SYNCHRONIZED), 6, name + " is synchronized");
        refuseIf(Set.of("equals", "hashCode", "toString").contains(name), 6, name);
        calls.computeIfAbsent(trees.getElement(getCurrentPath()), key -> new LinkedHashSet<>());
        hiddenNames.remove("<init>");
        return super.visitMethod(tree, unused);
    }

    private int lines(Tree tree) {
        SourcePositions positions = trees.getSourcePositions();
        long first = positions.getStartPosition(unit, tree);
        long last = positions.getEndPosition(unit, tree);
        if (first < 0 || last < 0) {
            return 0;
        }
        return (int) (unit.getLineMap().getLineNumber(last)
                - unit.getLineMap().getLineNumber(first) + 1);
    }

    @Override
    public Void visitMethodInvocation(MethodInvocationTree tree, Void unused) {
        Element called = trees.getElement(getCurrentPath());
        Element caller = enclosingMethod();
        boolean base = called != null && called.getSimpleName().contentEquals("<init>");
        refuseIf(!base && !isOwn(called) && !isInLibrary(called), 4, "a call of " + called);
        if (caller != null && called != null && !base) {
            calls.computeIfAbsent(caller, key -> new LinkedHashSet<>()).add(called);
        }
        return super.visitMethodInvocation(tree, unused);
    }

    private static boolean isInLibrary(Element called) {
        if (called == null || !(called.getEnclosingElement() instanceof TypeElement type)) {
            return false;
        }
        String name = called.getSimpleName().toString();
        return switch (type.getQualifiedName().toString()) {
            case "java.lang.Math", "java.lang.Long", "java.lang.Integer" ->
                called.getModifiers().contains(Modifier.STATIC) && !name.endsWith("Exact")
                        && Set.of("abs", "bitCount", "compare", "floorDiv", "floorMod", "max",
                                "min", "numberOfTrailingZeros", "numberOfLeadingZeros",
                                "signum").contains(name);
            case "java.lang.System" -> name.equals("arraycopy");
            default -> false;
        };
    }

    /** A method that calls itself carries its depth; methods don't call one another in a ring. */
    private void checkRecursion(Element method) {
        Set<Element> reached = new LinkedHashSet<>();
        List<Element> open = new ArrayList<>(calls.get(method));
        while (!open.isEmpty()) {
            Element next = open.remove(open.size() - 1);
            if (!next.equals(method) && reached.add(next)) {
                open.addAll(calls.getOrDefault(next, Set.of()));
            }
        }
        for (Element other : reached) {
            refuseIf(calls.getOrDefault(other, Set.of()).contains(method), 8,
                    method + " calls itself by way of " + other);
        }
        if (calls.get(method).contains(method)) {
            boolean carried = ((ExecutableElement) method).getParameters().stream()
                    .anyMatch(parameter -> parameter.getSimpleName().contentEquals("depth"));
            refuseIf(!carried, 8, method + " calls itself without its depth");
        }
    }

    /** How many methods stand open at most, this one and those of the library among them. */
    private int depth(Element method, Set<Element> above) {
        int deepest = 0;
        above.add(method);
        for (Element next : calls.getOrDefault(method, Set.of())) {
            if (!above.contains(next)) {
                deepest = Math.max(deepest, depth(next, above));
            }
        }
        above.remove(method);
        return deepest + 1;
    }

    // ---- what objects and arrays are made

    private void checkMaking(String what) {
        ExecutableElement method = enclosingMethod();
        boolean first = method == null || method.getKind() == ElementKind.CONSTRUCTOR;
        refuseIf(!first, 12, what + " is made in " + method);
    }

    @Override
    public Void visitNewClass(NewClassTree tree, Void unused) {
        checkMaking(tree.getIdentifier().toString());
        refuseIf(!isOwn(trees.getElement(getCurrentPath())), 4, "new " + tree.getIdentifier());
        return super.visitNewClass(tree, unused);
    }

    @Override
    public Void visitNewArray(NewArrayTree tree, Void unused) {
        checkMaking("an array of " + tree.getType());
        return super.visitNewArray(tree, unused);
    }

    @Override
    public Void visitArrayType(ArrayTypeTree tree, Void unused) {
        refuseIf(tree.getType() instanceof ArrayTypeTree, 3, "an array of arrays");
        return super.visitArrayType(tree, unused);
    }

    // ---- what is not written at all

    @Override
    public Void visitLambdaExpression(LambdaExpressionTree tree, Void unused) {
        refuse(2, "a lambda");
        return super.visitLambdaExpression(tree, unused);
    }

    @Override
    public Void visitMemberReference(MemberReferenceTree tree, Void unused) {
        refuse(2, "a method reference");
        return super.visitMemberReference(tree, unused);
    }

    @Override
    public Void visitTry(TryTree tree, Void unused) {
        refuse(6, "a try");
        return super.visitTry(tree, unused);
    }

    @Override
    public Void visitThrow(ThrowTree tree, Void unused) {
        refuse(6, "a throw");
        return super.visitThrow(tree, unused);
    }

    @Override
    public Void visitSynchronized(SynchronizedTree tree, Void unused) {
        refuse(6, "a synchronized block");
        return super.visitSynchronized(tree, unused);
    }

    @Override
    public Void visitAssert(AssertTree tree, Void unused) {
        refuse(6, "an assert");
        return super.visitAssert(tree, unused);
    }

    @Override
    public Void visitTypeCast(TypeCastTree tree, Void unused) {
        refuse(6, "a cast, which this program does without");
        return super.visitTypeCast(tree, unused);
    }

    @Override
    public Void visitLiteral(LiteralTree tree, Void unused) {
        refuseIf(tree.getValue() instanceof String, 4, "a text, which this program does without");
        return super.visitLiteral(tree, unused);
    }

    // ---- loops

    @Override
    public Void visitForLoop(ForLoopTree tree, Void unused) {
        refuseIf(tree.getCondition() == null || tree.getUpdate().isEmpty(), 9,
                "a for without a bound or a step");
        return super.visitForLoop(tree, unused);
    }

    @Override
    public Void visitWhileLoop(WhileLoopTree tree, Void unused) {
        refuse(9, "a while, which has no counter in its own line");
        return super.visitWhileLoop(tree, unused);
    }

    @Override
    public Void visitDoWhileLoop(DoWhileLoopTree tree, Void unused) {
        refuse(9, "a do, which has no counter in its own line");
        return super.visitDoWhileLoop(tree, unused);
    }
}
