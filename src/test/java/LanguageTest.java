import com.sun.source.tree.AssertTree;
import com.sun.source.tree.BinaryTree;
import com.sun.source.tree.ClassTree;
import com.sun.source.tree.CompilationUnitTree;
import com.sun.source.tree.CompoundAssignmentTree;
import com.sun.source.tree.ExpressionTree;
import com.sun.source.tree.ImportTree;
import com.sun.source.tree.InstanceOfTree;
import com.sun.source.tree.LambdaExpressionTree;
import com.sun.source.tree.LiteralTree;
import com.sun.source.tree.MemberReferenceTree;
import com.sun.source.tree.MethodInvocationTree;
import com.sun.source.tree.MethodTree;
import com.sun.source.tree.NewClassTree;
import com.sun.source.tree.SynchronizedTree;
import com.sun.source.tree.ThrowTree;
import com.sun.source.tree.Tree;
import com.sun.source.tree.TryTree;
import com.sun.source.tree.TypeCastTree;
import com.sun.source.tree.VariableTree;
import com.sun.source.util.JavacTask;
import com.sun.source.util.TreePathScanner;
import com.sun.source.util.Trees;
import java.nio.file.Files;
import java.nio.file.Path;
import java.util.HashSet;
import java.util.List;
import java.util.Map;
import java.util.Set;
import java.util.TreeMap;
import java.util.TreeSet;
import javax.lang.model.element.Element;
import javax.lang.model.element.ElementKind;
import javax.lang.model.element.ExecutableElement;
import javax.lang.model.element.Modifier;
import javax.lang.model.type.ArrayType;
import javax.lang.model.type.TypeKind;
import javax.lang.model.type.TypeMirror;
import javax.tools.JavaCompiler;
import javax.tools.StandardJavaFileManager;
import javax.tools.ToolProvider;

/** Those rules of ../shared/LANGUAGE.md that the compiler's tree of the program can tell. */
public final class LanguageTest extends TreePathScanner<Void, Void> {
    private static final Path PROGRAM = Path.of("src/main/java/AtariGarden.java");
    private static final int MOST_LINES = 60;
    private static final int MOST_PARAMETERS = 7;
    private static final int MOST_CLASSES = 12;
    private static final int MOST_FIELDS = 20;
    private static final int DEEPEST = 8;
    /** Of the library that rule 4 names, what the program needs. */
    private static final Set<String> LIBRARY = Set.of("java.lang.Long.bitCount", "java.lang.Math.max", "java.lang.Math.min",
            "java.lang.Math.abs", "java.lang.Object.<init>");
    private static final Set<String> THROWN = Set.of("IllegalStateException", "IllegalArgumentException", "IndexOutOfBoundsException");

    private final Check check = new Check();
    private final Trees trees;
    private final CompilationUnitTree unit;
    private final Set<String> face = new HashSet<>();
    private final Map<String, Set<String>> calls = new TreeMap<>();
    private final Set<String> openToRecursion = new TreeSet<>();
    private int classes;

    private LanguageTest(Trees trees, CompilationUnitTree unit) {
        this.trees = trees;
        this.unit = unit;
    }

    public static void main(String[] args) throws Exception {
        JavaCompiler compiler = ToolProvider.getSystemJavaCompiler();
        try (StandardJavaFileManager files = compiler.getStandardFileManager(null, null, null)) {
            JavacTask task = (JavacTask) compiler.getTask(null, files, null, null, null, files.getJavaFileObjects(PROGRAM));
            CompilationUnitTree unit = task.parse().iterator().next();
            task.analyze();
            LanguageTest test = new LanguageTest(Trees.instance(task), unit);
            test.signs(Files.readString(PROGRAM));
            test.gatherFace();
            test.scan(unit, null);
            test.deepestCalls();
            test.holds(2, "some twelve classes", test.classes <= MOST_CLASSES);
            test.check.close();
        }
    }

    private void holds(int rule, String what, boolean yes) {
        check.same("LANGUAGE.md, rule " + rule + ": " + what, 1, yes ? 1 : 0);
    }

    /** Whether the rule holds of what is looked at just now. */
    private void holdsHere(int rule, String what, boolean yes) {
        long at = trees.getSourcePositions().getStartPosition(unit, getCurrentPath().getLeaf());
        holds(rule, what + ", line " + unit.getLineMap().getLineNumber(at), yes);
    }

    private Element element() {
        return trees.getElement(getCurrentPath());
    }

    private static boolean is(Element element, Modifier modifier) {
        return element.getModifiers().contains(modifier);
    }

    private static boolean isInTheFace(Element element) {
        return is(element, Modifier.PUBLIC);
    }

    // ---- rule 4: constants hold the signs 1 to 127

    private void signs(String text) {
        for (int i = 0; i < text.length(); i++) {
            char sign = text.charAt(i);
            if (sign < 1 || sign > 127) {
                holds(4, "sign " + (int) sign + " at " + i, false);
            }
        }
    }

    // ---- rule 1: one class, the face, and no other method of a name of the face

    private void gatherFace() {
        holds(1, "no package line", unit.getPackageName() == null);
        holds(1, "one class", unit.getTypeDecls().size() == 1);
        ClassTree program = (ClassTree) unit.getTypeDecls().get(0);
        for (Tree member : program.getMembers()) {
            if (member instanceof MethodTree method && method.getModifiers().getFlags().contains(Modifier.PUBLIC)) {
                holds(1, "two methods of the name " + method.getName(), face.add(method.getName().toString()));
            }
        }
    }

    @Override
    public Void visitImport(ImportTree tree, Void none) {
        holdsHere(4, "no import", false);
        return super.visitImport(tree, none);
    }

    @Override
    public Void visitClass(ClassTree tree, Void none) {
        classes++;
        Element element = element();
        boolean inside = getCurrentPath().getParentPath().getLeaf() instanceof ClassTree;
        holdsHere(2, "no local class", inside || tree == unit.getTypeDecls().get(0));
        holdsHere(1, "classes inside are static", !inside || is(element, Modifier.STATIC));
        holdsHere(1, "classes inside are private or package-visible",
                !inside || !is(element, Modifier.PUBLIC) && !is(element, Modifier.PROTECTED));
        int fields = 0;
        for (Tree member : tree.getMembers()) {
            boolean isField = member instanceof VariableTree;
            fields += isField && !((VariableTree) member).getModifiers().getFlags().contains(Modifier.STATIC) ? 1 : 0;
            holdsHere(5, "no initialiser block", member.getKind() != Tree.Kind.BLOCK);
        }
        holdsHere(11, "some twenty fields", fields <= MOST_FIELDS);
        return super.visitClass(tree, none);
    }

    // ---- rules 3 and 5: types and fields

    @Override
    public Void visitVariable(VariableTree tree, Void none) {
        Element element = element();
        holdsHere(3, "the type of " + tree.getName(), isAllowed(element.asType()));
        if (element.getKind() == ElementKind.FIELD) {
            holdsHere(1, "private fields", is(element, Modifier.PRIVATE));
            holdsHere(5, "static fields are final", !is(element, Modifier.STATIC) || is(element, Modifier.FINAL));
            holdsHere(5, "static fields have a value", !is(element, Modifier.STATIC) || tree.getInitializer() != null);
            holdsHere(5, "no static objects", !is(element, Modifier.STATIC) || isConstant(element.asType()));
        }
        return super.visitVariable(tree, none);
    }

    private boolean isAllowed(TypeMirror type) {
        if (type.getKind() == TypeKind.ARRAY) {
            TypeMirror part = ((ArrayType) type).getComponentType();
            return part.getKind() != TypeKind.ARRAY && isAllowed(part);
        }
        return type.getKind().isPrimitive() || type.toString().equals("java.lang.String") || type.toString().startsWith("AtariGarden");
    }

    private static boolean isConstant(TypeMirror type) {
        TypeMirror part = type.getKind() == TypeKind.ARRAY ? ((ArrayType) type).getComponentType() : type;
        return part.getKind().isPrimitive() || part.toString().equals("java.lang.String");
    }

    // ---- rules 6 and 11: methods

    @Override
    public Void visitMethod(MethodTree tree, Void none) {
        ExecutableElement method = (ExecutableElement) element();
        calls.putIfAbsent(nameOf(method), new TreeSet<>());
        boolean free = isInTheFace(method) || !face.contains(tree.getName().toString()) || tree.getReturnType() == null;
        holdsHere(1, "no name of the face: " + tree.getName(), free);
        holdsHere(11, "at most seven parameters", tree.getParameters().size() <= MOST_PARAMETERS);
        holdsHere(11, "some sixty lines", linesOf(tree) <= MOST_LINES);
        holdsHere(6, "no method of an object's own: " + tree.getName(),
                !Set.of("equals", "hashCode", "toString").contains(tree.getName().toString()));
        if (is(method, Modifier.PRIVATE) && is(method, Modifier.STATIC)) {
            openToRecursion.add(nameOf(method));
        }
        return super.visitMethod(tree, none);
    }

    private long linesOf(Tree tree) {
        long from = trees.getSourcePositions().getStartPosition(unit, tree);
        long to = trees.getSourcePositions().getEndPosition(unit, tree);
        return to < 0 ? 1 : unit.getLineMap().getLineNumber(to) - unit.getLineMap().getLineNumber(from) + 1;
    }

    @Override
    public Void visitThrow(ThrowTree tree, Void none) {
        boolean made = tree.getExpression() instanceof NewClassTree;
        holdsHere(6, "throw new", made);
        if (made) {
            NewClassTree thrown = (NewClassTree) tree.getExpression();
            List<? extends ExpressionTree> texts = thrown.getArguments();
            holdsHere(6, "what is thrown", THROWN.contains(thrown.getIdentifier().toString()));
            holdsHere(6, "a written text", texts.isEmpty() || texts.size() == 1 && texts.get(0) instanceof LiteralTree);
        }
        holdsHere(6, "no throw in a constructor", ((MethodTree) enclosing(MethodTree.class)).getReturnType() != null);
        return super.visitThrow(tree, none);
    }

    private Tree enclosing(Class<?> kind) {
        for (Tree tree : getCurrentPath()) {
            if (kind.isInstance(tree)) {
                return tree;
            }
        }
        return null;
    }

    // ---- rules 4, 8 and 11: calls

    @Override
    public Void visitMethodInvocation(MethodInvocationTree tree, Void none) {
        call((ExecutableElement) element());
        return super.visitMethodInvocation(tree, none);
    }

    @Override
    public Void visitNewClass(NewClassTree tree, Void none) {
        holdsHere(2, "no anonymous class", tree.getClassBody() == null);
        if (!(getCurrentPath().getParentPath().getLeaf() instanceof ThrowTree)) {
            call((ExecutableElement) element());
        }
        return super.visitNewClass(tree, none);
    }

    private void call(ExecutableElement called) {
        String name = nameOf(called);
        boolean own = name.startsWith("AtariGarden");
        holdsHere(4, "the library's " + name, own || LIBRARY.contains(name));
        Tree caller = enclosing(MethodTree.class);
        if (own && caller != null) {
            Element from = trees.getElement(trees.getPath(unit, caller));
            calls.computeIfAbsent(nameOf((ExecutableElement) from), key -> new TreeSet<>()).add(name);
        }
    }

    private static String nameOf(ExecutableElement method) {
        return method.getEnclosingElement() + "." + method.getSimpleName();
    }

    /** Each chain of calls that comes to no method twice; what comes back to one of its own is recursion. */
    private void deepestCalls() {
        for (String method : calls.keySet()) {
            holds(11, "calls go at most eight deep from " + method, depth(method, new TreeSet<>()) <= DEEPEST);
        }
    }

    private int depth(String method, Set<String> open) {
        if (!open.add(method)) {
            holds(8, "recursion of private static methods alone: " + method, openToRecursion.contains(method));
            return 0;
        }
        int deepest = 0;
        for (String called : calls.getOrDefault(method, Set.of())) {
            deepest = Math.max(deepest, depth(called, open));
        }
        open.remove(method);
        return deepest + 1;
    }

    // ---- rules 2, 6 and 10: what the program does without

    @Override
    public Void visitBinary(BinaryTree tree, Void none) {
        if (tree.getKind() == Tree.Kind.PLUS) {
            holdsHere(10, "no texts joined by +", trees.getTypeMirror(getCurrentPath()).getKind().isPrimitive());
        }
        return super.visitBinary(tree, none);
    }

    @Override
    public Void visitCompoundAssignment(CompoundAssignmentTree tree, Void none) {
        holdsHere(10, "no texts joined by +=", trees.getTypeMirror(getCurrentPath()).getKind().isPrimitive());
        return super.visitCompoundAssignment(tree, none);
    }

    @Override
    public Void visitTry(TryTree tree, Void none) {
        holdsHere(6, "no try", false);
        return super.visitTry(tree, none);
    }

    @Override
    public Void visitAssert(AssertTree tree, Void none) {
        holdsHere(6, "no assert", false);
        return super.visitAssert(tree, none);
    }

    @Override
    public Void visitSynchronized(SynchronizedTree tree, Void none) {
        holdsHere(6, "no synchronized", false);
        return super.visitSynchronized(tree, none);
    }

    @Override
    public Void visitInstanceOf(InstanceOfTree tree, Void none) {
        holdsHere(6, "no instanceof", false);
        return super.visitInstanceOf(tree, none);
    }

    @Override
    public Void visitTypeCast(TypeCastTree tree, Void none) {
        holdsHere(7, "no cast of objects", trees.getTypeMirror(getCurrentPath()).getKind().isPrimitive());
        return super.visitTypeCast(tree, none);
    }

    @Override
    public Void visitLambdaExpression(LambdaExpressionTree tree, Void none) {
        holdsHere(2, "no lambda", false);
        return super.visitLambdaExpression(tree, none);
    }

    @Override
    public Void visitMemberReference(MemberReferenceTree tree, Void none) {
        holdsHere(2, "no method reference", false);
        return super.visitMemberReference(tree, none);
    }
}
