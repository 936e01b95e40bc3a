import com.sun.source.tree.*;
import com.sun.source.util.JavacTask;
import com.sun.source.util.SourcePositions;
import com.sun.source.util.TreePath;
import com.sun.source.util.TreePathScanner;
import com.sun.source.util.Trees;
import java.io.IOException;
import java.net.URI;
import java.util.ArrayList;
import java.util.HashMap;
import java.util.LinkedHashSet;
import java.util.List;
import java.util.Map;
import java.util.Set;
import javax.lang.model.element.Element;
import javax.lang.model.element.ElementKind;
import javax.lang.model.element.Modifier;
import javax.lang.model.element.TypeElement;
import javax.lang.model.type.ArrayType;
import javax.lang.model.type.DeclaredType;
import javax.lang.model.type.TypeKind;
import javax.lang.model.type.TypeMirror;
import javax.tools.JavaFileObject;
import javax.tools.SimpleJavaFileObject;
import javax.tools.ToolProvider;

/**
 * Reads a file of the class as javac does and tells where it is outside LANGUAGE.md: each breach begins with its rule's
 * number. Where a rule leaves more than the class needs (while, casts among own classes, objects made by calls), this is
 * the stricter one.
 */
final class Rules extends TreePathScanner<Void, Void> {
    private static final Set<String> IMPORTS = Set.of("java.util.Arrays", "java.util.ArrayList", "java.util.List", "java.util.Iterator");
    private static final Map<String, Set<String>> LIBRARY = Map.of(
            "java.lang.String", Set.of("length", "charAt", "isEmpty", "equals", "indexOf", "substring", "toCharArray"),
            "java.lang.StringBuilder", Set.of("append", "charAt", "setCharAt", "setLength", "deleteCharAt", "reverse", "length", "toString"),
            "java.util.ArrayList", Set.of("add", "get", "set", "remove", "size", "isEmpty", "clear"),
            "java.util.List", Set.of("add", "get", "set", "remove", "size", "isEmpty", "clear", "of"),
            "java.lang.Math", Set.of("max", "min", "abs", "floorDiv", "floorMod"),
            "java.lang.Integer", Set.of("compare", "max", "min", "bitCount"),
            "java.lang.Long", Set.of("compare", "max", "min", "bitCount"),
            "java.lang.System", Set.of("arraycopy"),
            "java.util.Arrays", Set.of("copyOf", "copyOfRange", "fill"));
    private static final Set<String> TEXTS_AND_LISTS = Set.of("java.lang.String", "java.lang.StringBuilder", "java.util.ArrayList", "java.util.List");
    private static final Set<TypeKind> ROWS = Set.of(TypeKind.INT, TypeKind.LONG, TypeKind.CHAR, TypeKind.BYTE);
    private static final int PARAMETERS = 7, LINES = 60, DEEP = 8, CLASSES = 12, FIELDS = 20;

    private final List<String> breaches = new ArrayList<>();
    private final Trees trees;
    private final SourcePositions positions;
    private final CompilationUnitTree unit;
    private final Map<Element, Set<Element>> calls = new HashMap<>();
    private int classes = 0;

    private Rules(Trees trees, CompilationUnitTree unit) {
        this.trees = trees;
        this.positions = trees.getSourcePositions();
        this.unit = unit;
    }

    static List<String> breachesOf(String source) throws IOException {
        JavaFileObject file = new SimpleJavaFileObject(URI.create("string:///OrganBarrel.java"), JavaFileObject.Kind.SOURCE) {
            @Override
            public CharSequence getCharContent(boolean ignoreErrors) {
                return source;
            }
        };
        List<String> errors = new ArrayList<>();
        JavacTask task = (JavacTask) ToolProvider.getSystemJavaCompiler().getTask(null, null,
                d -> errors.add("javac: " + d.getMessage(null)), List.of("-proc:none"), null, List.of(file));
        CompilationUnitTree unit = task.parse().iterator().next();
        task.analyze();
        Rules rules = new Rules(Trees.instance(task), unit);
        rules.scan(unit, null);
        rules.askCalls();
        rules.breaches.addAll(errors);
        return rules.breaches;
    }

    private void ask(boolean holds, int rule, String what, Tree at) {
        if (!holds) {
            breaches.add(rule + ": " + what + ", line " + line(at, false));
        }
    }

    private long line(Tree at, boolean end) {
        long place = end ? positions.getEndPosition(unit, at) : positions.getStartPosition(unit, at);
        return unit.getLineMap().getLineNumber(Math.max(0, place));
    }

    private Element element() {
        return trees.getElement(getCurrentPath());
    }

    private TypeMirror typeOf(Tree tree) {
        return trees.getTypeMirror(new TreePath(getCurrentPath(), tree));
    }

    private boolean isOwn(Element e) {
        Element outer = e;
        while (outer.getEnclosingElement() != null && outer.getEnclosingElement().getKind() != ElementKind.PACKAGE) {
            outer = outer.getEnclosingElement();
        }
        return outer.getSimpleName().contentEquals("OrganBarrel");
    }

    // ---- the file and its classes

    @Override
    public Void visitCompilationUnit(CompilationUnitTree tree, Void none) {
        ask(tree.getPackage() == null, 1, "a package line", tree);
        ask(tree.getTypeDecls().size() == 1, 1, "more than one class outside", tree);
        super.visitCompilationUnit(tree, none);
        ask(classes <= CLASSES, 11, classes + " classes", tree);
        return none;
    }

    @Override
    public Void visitImport(ImportTree tree, Void none) {
        ask(!tree.isStatic() && IMPORTS.contains(tree.getQualifiedIdentifier().toString()), 4, "import of " + tree.getQualifiedIdentifier(), tree);
        return none;
    }

    @Override
    public Void visitClass(ClassTree tree, Void none) {
        classes++;
        TypeElement type = (TypeElement) element();
        Set<Modifier> marks = type.getModifiers();
        boolean outside = getCurrentPath().getParentPath().getLeaf() instanceof CompilationUnitTree;
        boolean inAClass = getCurrentPath().getParentPath().getLeaf() instanceof ClassTree;
        ask(outside || inAClass, 2, "a class within a method", tree);
        ask(outside == marks.contains(Modifier.PUBLIC) && !marks.contains(Modifier.PROTECTED), 1, "who sees " + type, tree);
        ask(outside || marks.contains(Modifier.STATIC), 2, type + " is not static", tree);
        ask(marks.contains(Modifier.FINAL) || marks.contains(Modifier.ABSTRACT), 12, "another class could override what is in " + type, tree);
        askMembers(tree, type);
        return super.visitClass(tree, none);
    }

    private void askMembers(ClassTree tree, TypeElement type) {
        int fields = 0;
        for (Tree member : tree.getMembers()) {
            ask(!(member instanceof BlockTree), 5, "an initialiser block", member);
        }
        for (Element e : type.getEnclosedElements()) {
            if (e.getKind() == ElementKind.FIELD && !e.getModifiers().contains(Modifier.STATIC)) {
                fields++;
            }
            ask(type.getNestingKind().isNested() || e.getKind().isClass() || e.getKind().isInterface() || e.getModifiers().contains(Modifier.PUBLIC)
                    || e.getModifiers().contains(Modifier.PRIVATE), 1, e + " is seen in the package", tree);
        }
        ask(fields <= FIELDS, 11, type + " has " + fields + " fields", tree);
    }

    @Override
    public Void visitMethod(MethodTree tree, Void none) {
        Element method = element();
        ask(tree.getParameters().size() <= PARAMETERS, 11, method + " takes " + tree.getParameters().size(), tree);
        ask(line(tree, true) - line(tree, false) < LINES, 11, method + " is long", tree);
        if (tree.getReturnType() != null) {
            ask(isTold(typeOf(tree.getReturnType())), 3, "the type of " + method, tree);
        }
        ask(!Set.of("equals", "hashCode", "toString").contains(tree.getName().toString()), 6, "own " + tree.getName(), tree);
        askName(tree, method);
        calls.putIfAbsent(method, new LinkedHashSet<>());
        return super.visitMethod(tree, none);
    }

    private void askName(MethodTree tree, Element method) {
        if (method.getModifiers().contains(Modifier.PUBLIC) || method.getKind() == ElementKind.CONSTRUCTOR) {
            return;
        }
        Element outer = method;
        while (outer.getEnclosingElement().getKind() != ElementKind.PACKAGE) {
            outer = outer.getEnclosingElement();
        }
        for (Element e : outer.getEnclosedElements()) {
            boolean faced = e.getKind() == ElementKind.METHOD && e.getModifiers().contains(Modifier.PUBLIC);
            ask(!faced || !e.getSimpleName().equals(method.getSimpleName()), 1, "a private method with a public one's name: " + method, tree);
        }
    }

    // ---- types and static fields

    @Override
    public Void visitVariable(VariableTree tree, Void none) {
        Element variable = element();
        ask(isTold(variable.asType()), 3, "the type of " + variable, tree);
        if (variable.getKind() == ElementKind.FIELD && variable.getModifiers().contains(Modifier.STATIC)) {
            ask(variable.getModifiers().contains(Modifier.FINAL), 5, variable + " is static and not final", tree);
            ask(isConstant(variable.asType()), 5, "the type of the static " + variable, tree);
            boolean writtenOut = !(variable.asType() instanceof ArrayType) || tree.getInitializer() instanceof NewArrayTree row
                    && row.getInitializers() != null;
            ask(writtenOut, 5, variable + " is not written out", tree);
        }
        return super.visitVariable(tree, none);
    }

    private boolean isTold(TypeMirror type) {
        if (type instanceof ArrayType row) {
            TypeMirror of = row.getComponentType();
            boolean ofRows = of instanceof ArrayType inner && inner.getComponentType().getKind().isPrimitive();
            return of.getKind().isPrimitive() || ofRows || of instanceof DeclaredType d && isOwn(d.asElement());
        }
        if (type instanceof DeclaredType d) {
            return isOwn(d.asElement()) || TEXTS_AND_LISTS.contains(((TypeElement) d.asElement()).getQualifiedName().toString());
        }
        return type.getKind().isPrimitive() || type.getKind() == TypeKind.VOID;
    }

    private static boolean isConstant(TypeMirror type) {
        if (type instanceof ArrayType row) {
            return ROWS.contains(row.getComponentType().getKind());
        }
        return Set.of("int", "long", "boolean", "char", "java.lang.String").contains(type.toString());
    }

    @Override
    public Void visitAssignment(AssignmentTree tree, Void none) {
        if (tree.getVariable() instanceof ArrayAccessTree place) {
            Element row = trees.getElement(new TreePath(new TreePath(getCurrentPath(), place), place.getExpression()));
            ask(row == null || !row.getModifiers().contains(Modifier.STATIC), 5, "a static row is changed", tree);
        }
        return super.visitAssignment(tree, none);
    }

    // ---- calls and objects

    @Override
    public Void visitMethodInvocation(MethodInvocationTree tree, Void none) {
        Element called = element();
        if (called != null && isOwn(called)) {
            noteCall(called);
        } else if (called != null && called.getKind() == ElementKind.METHOD) {
            String of = ((TypeElement) called.getEnclosingElement()).getQualifiedName().toString();
            boolean copiesARow = called.getSimpleName().contentEquals("clone");
            ask(copiesARow || LIBRARY.getOrDefault(of, Set.of()).contains(called.getSimpleName().toString()), 4, of + "." + called.getSimpleName(), tree);
        }
        return super.visitMethodInvocation(tree, none);
    }

    private void noteCall(Element called) {
        TreePath path = getCurrentPath();
        while (path != null && !(path.getLeaf() instanceof MethodTree)) {
            path = path.getParentPath();
        }
        if (path != null) {
            calls.computeIfAbsent(trees.getElement(path), m -> new LinkedHashSet<>()).add(called);
        }
    }

    @Override
    public Void visitNewClass(NewClassTree tree, Void none) {
        ask(tree.getClassBody() == null, 2, "a class without a name", tree);
        ask(isTold(typeOf(tree.getIdentifier())), 4, "new " + tree.getIdentifier(), tree);
        Element made = element();
        if (made != null && isOwn(made)) {
            noteCall(made);
        }
        askMaking(tree);
        return super.visitNewClass(tree, none);
    }

    @Override
    public Void visitNewArray(NewArrayTree tree, Void none) {
        askMaking(tree);
        return super.visitNewArray(tree, none);
    }

    /** The class makes all in constructors and uses it again, so that a run's room does not depend on its calls. */
    private void askMaking(Tree tree) {
        TreePath path = getCurrentPath();
        while (!(path.getLeaf() instanceof MethodTree) && !(path.getLeaf() instanceof ClassTree)) {
            path = path.getParentPath();
        }
        boolean byACall = path.getLeaf() instanceof MethodTree m && m.getReturnType() != null;
        ask(!byACall, 12, "a call makes an object", tree);
    }

    private void askCalls() {
        Map<Element, Integer> depths = new HashMap<>();
        for (Element method : calls.keySet()) {
            int depth = depth(method, depths, new LinkedHashSet<>());
            ask(depth <= DEEP, 11, method + " goes " + depth + " deep", unit);
        }
    }

    private int depth(Element method, Map<Element, Integer> known, Set<Element> open) {
        ask(!open.contains(method), 8, method + " calls itself", unit);
        if (open.contains(method) || known.containsKey(method)) {
            return known.getOrDefault(method, 0);
        }
        open.add(method);
        int deepest = 0;
        for (Element called : calls.getOrDefault(method, Set.of())) {
            deepest = Math.max(deepest, depth(called, known, open));
        }
        open.remove(method);
        known.put(method, deepest + 1);
        return deepest + 1;
    }

    // ---- loops

    @Override
    public Void visitForLoop(ForLoopTree tree, Void none) {
        String counter = counterOf(tree);
        boolean bounded = counter != null && tree.getCondition() != null && namesIn(tree.getCondition()).contains(counter);
        ask(bounded, 9, "a loop without a counter against a bound", tree);
        if (bounded) {
            ask(!changedIn(tree.getStatement()).contains(counter), 9, counter + " is changed within its loop", tree);
        }
        return super.visitForLoop(tree, none);
    }

    private static String counterOf(ForLoopTree tree) {
        if (tree.getUpdate().size() != 1) {
            return null;
        }
        Set<String> changed = changedIn(tree.getUpdate().get(0));
        return changed.size() == 1 ? changed.iterator().next() : null;
    }

    private static Set<String> namesIn(Tree tree) {
        Set<String> names = new LinkedHashSet<>();
        new com.sun.source.util.TreeScanner<Void, Void>() {
            @Override
            public Void visitIdentifier(IdentifierTree name, Void none) {
                names.add(name.getName().toString());
                return none;
            }
        }.scan(tree, null);
        return names;
    }

    private static Set<String> changedIn(Tree tree) {
        Set<String> names = new LinkedHashSet<>();
        new com.sun.source.util.TreeScanner<Void, Void>() {
            @Override
            public Void visitUnary(UnaryTree step, Void none) {
                if (step.getKind().name().contains("CREMENT")) {
                    names.add(step.getExpression().toString());
                }
                return super.visitUnary(step, none);
            }

            @Override
            public Void visitCompoundAssignment(CompoundAssignmentTree step, Void none) {
                names.add(step.getVariable().toString());
                return super.visitCompoundAssignment(step, none);
            }

            @Override
            public Void visitAssignment(AssignmentTree step, Void none) {
                names.add(step.getVariable().toString());
                return super.visitAssignment(step, none);
            }
        }.scan(tree, null);
        return names;
    }

    @Override
    public Void visitWhileLoop(WhileLoopTree tree, Void none) {
        ask(false, 9, "while", tree);
        return super.visitWhileLoop(tree, none);
    }

    @Override
    public Void visitDoWhileLoop(DoWhileLoopTree tree, Void none) {
        ask(false, 9, "do", tree);
        return super.visitDoWhileLoop(tree, none);
    }

    // ---- what the language leaves out

    @Override
    public Void visitSwitch(SwitchTree tree, Void none) {
        TypeMirror by = typeOf(tree.getExpression());
        ask(by == null || !by.toString().equals("java.lang.String"), 10, "switch on a text", tree);
        return super.visitSwitch(tree, none);
    }

    @Override
    public Void visitBinary(BinaryTree tree, Void none) {
        boolean texts = isText(tree.getLeftOperand()) || isText(tree.getRightOperand());
        ask(!texts || tree.getKind() != Tree.Kind.PLUS, 10, "texts joined by +", tree);
        boolean compares = tree.getKind() == Tree.Kind.EQUAL_TO || tree.getKind() == Tree.Kind.NOT_EQUAL_TO;
        ask(!texts || !compares, 6, "texts compared by " + tree.getKind(), tree);
        return super.visitBinary(tree, none);
    }

    private boolean isText(Tree tree) {
        TypeMirror type = typeOf(tree);
        return type != null && type.toString().equals("java.lang.String");
    }

    @Override
    public Void visitTypeCast(TypeCastTree tree, Void none) {
        ask(typeOf(tree.getType()).getKind().isPrimitive(), 6, "a cast to " + tree.getType(), tree);
        return super.visitTypeCast(tree, none);
    }

    @Override
    public Void visitLambdaExpression(LambdaExpressionTree tree, Void none) {
        ask(false, 2, "a lambda", tree);
        return super.visitLambdaExpression(tree, none);
    }

    @Override
    public Void visitMemberReference(MemberReferenceTree tree, Void none) {
        ask(false, 2, "a method reference", tree);
        return super.visitMemberReference(tree, none);
    }

    @Override
    public Void visitThrow(ThrowTree tree, Void none) {
        ask(false, 6, "throw", tree);
        return super.visitThrow(tree, none);
    }

    @Override
    public Void visitTry(TryTree tree, Void none) {
        ask(false, 6, "try", tree);
        return super.visitTry(tree, none);
    }

    @Override
    public Void visitSynchronized(SynchronizedTree tree, Void none) {
        ask(false, 6, "synchronized", tree);
        return super.visitSynchronized(tree, none);
    }

    @Override
    public Void visitAssert(AssertTree tree, Void none) {
        ask(false, 6, "assert", tree);
        return super.visitAssert(tree, none);
    }
}
