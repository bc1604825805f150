import com.sun.source.tree.*;
import com.sun.source.util.JavacTask;
import com.sun.source.util.TreePath;
import com.sun.source.util.TreePathScanner;
import com.sun.source.util.Trees;
import java.io.IOException;
import java.net.URI;
import java.util.ArrayList;
import java.util.HashMap;
import java.util.HashSet;
import java.util.List;
import java.util.Map;
import java.util.Set;
import javax.lang.model.element.Element;
import javax.lang.model.element.ElementKind;
import javax.lang.model.element.ExecutableElement;
import javax.lang.model.element.Modifier;
import javax.lang.model.element.TypeElement;
import javax.lang.model.element.VariableElement;
import javax.lang.model.type.ArrayType;
import javax.lang.model.type.DeclaredType;
import javax.lang.model.type.TypeKind;
import javax.lang.model.type.TypeMirror;
import javax.tools.Diagnostic;
import javax.tools.DiagnosticCollector;
import javax.tools.JavaCompiler;
import javax.tools.JavaFileObject;
import javax.tools.SimpleJavaFileObject;
import javax.tools.ToolProvider;

/**
 * Looks for what LANGUAGE.md forbids in a source, with the types and calls that the compiler sees. Each finding begins
 * with the number of its rule. It is stricter than the rules where the class needs less than they allow: it wants
 * constant divisors (rule 7) and no recursion (rule 8).
 */
final class Rules extends TreePathScanner<Void, Void> {
    private static final Set<String> LIBRARY = Set.of("String.length", "String.charAt", "String.isEmpty", "String.equals",
            "String.indexOf", "String.substring", "String.toCharArray", "StringBuilder.append", "StringBuilder.charAt",
            "StringBuilder.setCharAt", "StringBuilder.setLength", "StringBuilder.deleteCharAt", "StringBuilder.reverse",
            "StringBuilder.length", "StringBuilder.toString", "ArrayList.add", "ArrayList.get", "ArrayList.set",
            "ArrayList.remove", "ArrayList.size", "ArrayList.isEmpty", "ArrayList.clear", "List.add", "List.get", "List.set",
            "List.remove", "List.size", "List.isEmpty", "List.clear", "List.of", "Integer.compare", "Integer.max",
            "Integer.min", "Integer.bitCount", "Long.compare", "Long.max", "Long.min", "Long.bitCount", "Math.max",
            "Math.min", "Math.abs", "Math.floorDiv", "Math.floorMod", "System.arraycopy", "Arrays.copyOf",
            "Arrays.copyOfRange", "Arrays.fill");
    private static final Set<String> TYPES = Set.of("String", "StringBuilder", "Integer", "ArrayList", "List");
    private static final Set<String> OF_OBJECTS = Set.of("equals", "hashCode", "toString");

    private final CompilationUnitTree unit;
    private final Trees trees;
    private final List<String> broken = new ArrayList<>();
    private final Set<String> publicNames = new HashSet<>();
    private final Map<Element, Set<Element>> calls = new HashMap<>();
    private int classes = 0;

    private Rules(CompilationUnitTree unit, Trees trees) {
        this.unit = unit;
        this.trees = trees;
    }

    /** What a source breaks of the rules, in the order of its lines. */
    static List<String> brokenIn(String source) throws IOException {
        JavaCompiler compiler = ToolProvider.getSystemJavaCompiler();
        JavaFileObject file = new SimpleJavaFileObject(URI.create("string:///PictureClues.java"), JavaFileObject.Kind.SOURCE) {
            @Override
            public CharSequence getCharContent(boolean ignoreEncodingErrors) {
                return source;
            }
        };
        DiagnosticCollector<JavaFileObject> told = new DiagnosticCollector<>();
        JavacTask task = (JavacTask) compiler.getTask(null, null, told, List.of("-proc:none"), null, List.of(file));
        CompilationUnitTree unit = task.parse().iterator().next();
        task.analyze();
        Rules rules = new Rules(unit, Trees.instance(task));
        told.getDiagnostics().stream().filter(one -> one.getKind() == Diagnostic.Kind.ERROR)
                .forEach(one -> rules.broken.add("does not compile: " + one));
        rules.check();
        return rules.broken;
    }

    private void check() {
        require(1, unit.getPackageName() == null, unit, "a package line");
        for (Tree type : unit.getTypeDecls()) {
            notePublicNames((ClassTree) type);
        }
        scan(unit, null);
        require(11, classes <= 12, unit, "more than twelve classes");
        for (Element method : calls.keySet()) {
            int deep = depth(method, new HashSet<>());
            require(8, deep >= 0, unit, "recursion at " + method);
            require(11, deep <= 8, unit, "calls " + deep + " deep from " + method);
        }
    }

    private void notePublicNames(ClassTree outer) {
        for (Tree member : outer.getMembers()) {
            if (member instanceof MethodTree method && method.getModifiers().getFlags().contains(Modifier.PUBLIC)) {
                publicNames.add(method.getName().toString());
            }
        }
    }

    private void require(int rule, boolean holds, Tree where, String what) {
        if (!holds) {
            long line = unit.getLineMap().getLineNumber(trees.getSourcePositions().getStartPosition(unit, where));
            broken.add("rule " + rule + ", line " + line + ": " + what);
        }
    }

    /** How many calls are open at once from a method on; -1 with recursion. */
    private int depth(Element method, Set<Element> open) {
        if (!open.add(method)) {
            return -1;
        }
        int deepest = 0;
        for (Element called : calls.getOrDefault(method, Set.of())) {
            int deep = depth(called, open);
            if (deep < 0) {
                return -1;
            }
            deepest = Math.max(deepest, deep);
        }
        open.remove(method);
        return deepest + 1;
    }

    // ---- classes and members

    @Override
    public Void visitClass(ClassTree node, Void nothing) {
        classes++;
        Tree parent = getCurrentPath().getParentPath().getLeaf();
        Set<Modifier> flags = node.getModifiers().getFlags();
        if (parent instanceof CompilationUnitTree) {
            require(1, flags.contains(Modifier.PUBLIC) && flags.contains(Modifier.FINAL), node, "not public and final");
        } else {
            boolean isStatic = node.getKind() != Tree.Kind.CLASS || flags.contains(Modifier.STATIC);
            // A class without a name is found where it is made.
            boolean named = !node.getSimpleName().isEmpty();
            require(2, !named || parent instanceof ClassTree && isStatic, node, "a class that is not static");
            require(1, !flags.contains(Modifier.PUBLIC) && !flags.contains(Modifier.PROTECTED), node, "an open class inside");
        }
        int fields = 0;
        for (Tree member : node.getMembers()) {
            require(5, !(member instanceof BlockTree block && block.isStatic()), member, "a static initialiser");
            boolean isField = member instanceof VariableTree;
            fields += isField && !((VariableTree) member).getModifiers().getFlags().contains(Modifier.STATIC) ? 1 : 0;
        }
        require(11, fields <= 20, node, "more than twenty fields");
        return super.visitClass(node, nothing);
    }

    @Override
    public Void visitMethod(MethodTree node, Void nothing) {
        String name = node.getName().toString();
        Set<Modifier> flags = node.getModifiers().getFlags();
        checkOpenness(node, flags, name);
        require(1, flags.contains(Modifier.PUBLIC) || !publicNames.contains(name) || name.equals("<init>"), node,
                "a method inside with the name of a public one: " + name);
        require(6, !OF_OBJECTS.contains(name), node, name);
        require(6, node.getThrows().isEmpty(), node, "throws");
        require(11, node.getParameters().size() <= 7, node, "more than seven parameters");
        LineMap lines = unit.getLineMap();
        long first = lines.getLineNumber(trees.getSourcePositions().getStartPosition(unit, node));
        long last = lines.getLineNumber(trees.getSourcePositions().getEndPosition(unit, node));
        require(11, last - first < 60, node, "a method of more than sixty lines");
        if (node.getReturnType() != null) {
            checkType(node.getReturnType());
        }
        calls.putIfAbsent(trees.getElement(getCurrentPath()), new HashSet<>());
        return super.visitMethod(node, nothing);
    }

    /** The outer class shows nothing but what is public. */
    private void checkOpenness(Tree member, Set<Modifier> flags, String name) {
        boolean outer = getCurrentPath().getParentPath().getParentPath().getLeaf() instanceof CompilationUnitTree;
        boolean open = flags.contains(Modifier.PUBLIC) || flags.contains(Modifier.PRIVATE);
        require(1, !outer || open, member, "neither public nor private: " + name);
    }

    @Override
    public Void visitVariable(VariableTree node, Void nothing) {
        if (node.getType() != null) {
            checkType(node.getType());
        }
        Element element = trees.getElement(getCurrentPath());
        if (element != null && element.getKind() == ElementKind.FIELD) {
            Set<Modifier> flags = node.getModifiers().getFlags();
            checkOpenness(node, flags, node.getName().toString());
            if (flags.contains(Modifier.STATIC)) {
                boolean constant = ((VariableElement) element).getConstantValue() != null
                        || node.getInitializer() instanceof NewArrayTree array && array.getInitializers() != null;
                require(5, flags.contains(Modifier.FINAL) && constant, node, "static, but no constant: " + node.getName());
            }
        }
        return super.visitVariable(node, nothing);
    }

    private void checkType(Tree type) {
        TypeMirror mirror = trees.getTypeMirror(new TreePath(getCurrentPath(), type));
        require(3, mirror != null && isAllowed(mirror), type, "type " + type);
    }

    private boolean isAllowed(TypeMirror type) {
        if (type.getKind() == TypeKind.ARRAY) {
            TypeMirror part = ((ArrayType) type).getComponentType();
            boolean rows = part.getKind() == TypeKind.ARRAY && ((ArrayType) part).getComponentType().getKind().isPrimitive();
            return part.getKind().isPrimitive() || rows || isOwn(part);
        }
        boolean named = type.getKind() == TypeKind.DECLARED && (isOwn(type) || TYPES.contains(nameOf(type)));
        return type.getKind().isPrimitive() || type.getKind() == TypeKind.VOID || named;
    }

    private boolean isOwn(TypeMirror type) {
        return type.getKind() == TypeKind.DECLARED && isOwn(((DeclaredType) type).asElement());
    }

    private boolean isOwn(Element element) {
        TreePath path = trees.getPath(element);
        return path != null && path.getCompilationUnit() == unit;
    }

    private static String nameOf(TypeMirror type) {
        return ((DeclaredType) type).asElement().getSimpleName().toString();
    }

    // ---- calls and new objects

    @Override
    public Void visitMethodInvocation(MethodInvocationTree node, Void nothing) {
        Element called = trees.getElement(new TreePath(getCurrentPath(), node.getMethodSelect()));
        noteCall(called);
        if (called instanceof ExecutableElement && !isOwn(called) && !called.getSimpleName().contentEquals("<init>")) {
            String owner = called.getEnclosingElement().getSimpleName().toString();
            String name = called.getSimpleName().toString();
            boolean clone = owner.equals("Array") && name.equals("clone");
            require(4, clone || LIBRARY.contains(owner + "." + name), node, "a call of " + owner + "." + name);
        }
        return super.visitMethodInvocation(node, nothing);
    }

    @Override
    public Void visitNewClass(NewClassTree node, Void nothing) {
        require(2, node.getClassBody() == null, node, "an anonymous class");
        Element called = trees.getElement(getCurrentPath());
        noteCall(called);
        TypeElement made = called == null ? null : (TypeElement) called.getEnclosingElement();
        boolean allowed = made != null && (isOwn(made) || TYPES.contains(made.getSimpleName().toString()));
        require(4, allowed, node, "new " + node.getIdentifier());
        return super.visitNewClass(node, nothing);
    }

    private void noteCall(Element called) {
        Element caller = enclosingMethod();
        if (caller != null && called != null) {
            calls.computeIfAbsent(caller, key -> new HashSet<>()).add(called);
        }
    }

    private Element enclosingMethod() {
        for (TreePath path = getCurrentPath(); path != null; path = path.getParentPath()) {
            if (path.getLeaf() instanceof MethodTree) {
                return trees.getElement(path);
            }
        }
        return null;
    }

    @Override
    public Void visitImport(ImportTree node, Void nothing) {
        String name = node.getQualifiedIdentifier().toString();
        boolean allowed = !node.isStatic() && Set.of("java.util.Arrays", "java.util.ArrayList", "java.util.List",
                "java.util.Iterator").contains(name);
        require(4, allowed, node, "import " + name);
        return super.visitImport(node, nothing);
    }

    @Override
    public Void visitIdentifier(IdentifierTree node, Void nothing) {
        boolean handedOut = node.getName().contentEquals("this")
                && !(getCurrentPath().getParentPath().getLeaf() instanceof MemberSelectTree);
        Element method = enclosingMethod();
        require(12, !handedOut || method == null || method.getKind() != ElementKind.CONSTRUCTOR, node,
                "this leaves the constructor");
        return super.visitIdentifier(node, nothing);
    }

    // ---- statements

    @Override
    public Void visitThrow(ThrowTree node, Void nothing) {
        require(6, false, node, "throw");
        return super.visitThrow(node, nothing);
    }

    @Override
    public Void visitTry(TryTree node, Void nothing) {
        require(6, false, node, "try");
        return super.visitTry(node, nothing);
    }

    @Override
    public Void visitSynchronized(SynchronizedTree node, Void nothing) {
        require(6, false, node, "synchronized");
        return super.visitSynchronized(node, nothing);
    }

    @Override
    public Void visitAssert(AssertTree node, Void nothing) {
        require(6, false, node, "assert");
        return super.visitAssert(node, nothing);
    }

    @Override
    public Void visitLambdaExpression(LambdaExpressionTree node, Void nothing) {
        require(2, false, node, "a lambda");
        return super.visitLambdaExpression(node, nothing);
    }

    @Override
    public Void visitMemberReference(MemberReferenceTree node, Void nothing) {
        require(2, false, node, "a method reference");
        return super.visitMemberReference(node, nothing);
    }

    @Override
    public Void visitSwitch(SwitchTree node, Void nothing) {
        ExpressionTree selector = node.getExpression();
        require(10, !isNamed(selector, "String"), node, "a switch on a text");
        return super.visitSwitch(node, nothing);
    }

    @Override
    public Void visitForLoop(ForLoopTree node, Void nothing) {
        require(9, isBounded(node.getCondition()) && !node.getUpdate().isEmpty(), node, "a loop without a bound");
        return super.visitForLoop(node, nothing);
    }

    @Override
    public Void visitWhileLoop(WhileLoopTree node, Void nothing) {
        require(9, isBounded(node.getCondition()), node, "a loop without a bound");
        return super.visitWhileLoop(node, nothing);
    }

    @Override
    public Void visitDoWhileLoop(DoWhileLoopTree node, Void nothing) {
        require(9, isBounded(node.getCondition()), node, "a loop without a bound");
        return super.visitDoWhileLoop(node, nothing);
    }

    /** Whether a condition demands that a counter keeps on its side of a bound, whatever else it demands. */
    private static boolean isBounded(ExpressionTree condition) {
        if (condition instanceof ParenthesizedTree inside) {
            return isBounded(inside.getExpression());
        }
        if (condition instanceof BinaryTree both && both.getKind() == Tree.Kind.CONDITIONAL_AND) {
            return isBounded(both.getLeftOperand()) || isBounded(both.getRightOperand());
        }
        return condition instanceof BinaryTree compared && compared.getLeftOperand() instanceof IdentifierTree
                && Set.of(Tree.Kind.LESS_THAN, Tree.Kind.LESS_THAN_EQUAL, Tree.Kind.GREATER_THAN,
                        Tree.Kind.GREATER_THAN_EQUAL).contains(compared.getKind());
    }

    // ---- expressions

    @Override
    public Void visitBinary(BinaryTree node, Void nothing) {
        boolean texts = isNamed(node.getLeftOperand(), "String") || isNamed(node.getRightOperand(), "String");
        boolean numbers = isNamed(node.getLeftOperand(), "Integer") && isNamed(node.getRightOperand(), "Integer");
        switch (node.getKind()) {
            case PLUS -> require(10, !texts, node, "texts joined by +");
            case EQUAL_TO, NOT_EQUAL_TO -> require(6, !texts && !numbers, node, "== between texts or boxed numbers");
            case DIVIDE, REMAINDER -> require(7, isConstant(node.getRightOperand()), node, "a divisor that can change");
            default -> { }
        }
        return super.visitBinary(node, nothing);
    }

    @Override
    public Void visitCompoundAssignment(CompoundAssignmentTree node, Void nothing) {
        boolean divides = node.getKind() == Tree.Kind.DIVIDE_ASSIGNMENT || node.getKind() == Tree.Kind.REMAINDER_ASSIGNMENT;
        require(7, !divides || isConstant(node.getExpression()), node, "a divisor that can change");
        require(10, !isNamed(node.getVariable(), "String"), node, "texts joined by +=");
        return super.visitCompoundAssignment(node, nothing);
    }

    /** A constant other than 0, as the compiler would refuse that one to divide by. */
    private boolean isConstant(ExpressionTree divisor) {
        Element element = trees.getElement(new TreePath(getCurrentPath(), divisor));
        Object value = divisor instanceof LiteralTree literal ? literal.getValue()
                : element instanceof VariableElement variable ? variable.getConstantValue() : null;
        return value instanceof Number number && number.longValue() != 0;
    }

    private boolean isNamed(ExpressionTree expression, String name) {
        TypeMirror type = trees.getTypeMirror(new TreePath(getCurrentPath(), expression));
        return type != null && type.getKind() == TypeKind.DECLARED && nameOf(type).equals(name);
    }

    @Override
    public Void visitTypeCast(TypeCastTree node, Void nothing) {
        TypeMirror type = trees.getTypeMirror(new TreePath(getCurrentPath(), node.getType()));
        require(6, type != null && type.getKind().isPrimitive(), node, "a cast to " + node.getType());
        return super.visitTypeCast(node, nothing);
    }

    @Override
    public Void visitLiteral(LiteralTree node, Void nothing) {
        if (node.getValue() instanceof String text) {
            require(4, text.chars().allMatch(sign -> sign >= 1 && sign <= 127), node, "a sign that is not plain");
        }
        return super.visitLiteral(node, nothing);
    }
}
