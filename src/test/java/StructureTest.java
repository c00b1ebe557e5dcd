import com.sun.source.tree.ArrayTypeTree;
import com.sun.source.tree.BinaryTree;
import com.sun.source.tree.ClassTree;
import com.sun.source.tree.CompilationUnitTree;
import com.sun.source.tree.EnhancedForLoopTree;
import com.sun.source.tree.ForLoopTree;
import com.sun.source.tree.MethodInvocationTree;
import com.sun.source.tree.MethodTree;
import com.sun.source.tree.NewArrayTree;
import com.sun.source.tree.NewClassTree;
import com.sun.source.tree.Tree;
import com.sun.source.tree.TypeCastTree;
import com.sun.source.tree.VariableTree;
import com.sun.source.util.JavacTask;
import com.sun.source.util.TreePath;
import com.sun.source.util.TreePathScanner;
import com.sun.source.util.Trees;
import java.io.IOException;
import java.lang.reflect.Array;
import java.lang.reflect.Field;
import java.lang.reflect.Modifier;
import java.nio.file.Path;
import java.util.ArrayDeque;
import java.util.Deque;
import java.util.List;
import java.util.Map;
import java.util.Set;
import java.util.TreeMap;
import java.util.TreeSet;
import javax.lang.model.element.Element;
import javax.lang.model.element.ElementKind;
import javax.lang.model.element.ExecutableElement;
import javax.lang.model.type.TypeKind;
import javax.lang.model.type.TypeMirror;
import javax.tools.JavaCompiler;
import javax.tools.StandardJavaFileManager;
import javax.tools.ToolProvider;

/** Those rules of LANGUAGE.md that hang on what a name stands for: read off the source by the compiler's own eyes. */
public final class StructureTest extends TreePathScanner<Void, String> {
    private static final Check CHECK = new Check();
    private static final Set<String> LIBRARY = Set.of("java.lang.Math.min", "java.lang.Integer.bitCount",
            "java.util.Arrays.fill");
    private static final int DEEPEST = 8;

    private final Trees trees;
    private final Map<String, Set<String>> calls = new TreeMap<>();

    private StructureTest(Trees trees) {
        this.trees = trees;
    }

    public static void main(String[] args) throws IOException, ReflectiveOperationException {
        String file = args.length > 0 ? args[0] : "src/main/java/LineToWreck.java";
        JavaCompiler compiler = ToolProvider.getSystemJavaCompiler();
        try (StandardJavaFileManager files = compiler.getStandardFileManager(null, null, null)) {
            JavacTask task = (JavacTask) compiler.getTask(null, files, null, List.of("-proc:none", "--release", "17"), null,
                    files.getJavaFileObjects(Path.of(file)));
            StructureTest test = new StructureTest(Trees.instance(task));
            for (CompilationUnitTree unit : task.parse()) {
                task.analyze();
                test.scan(unit, "");
            }
            test.depths();
        }
        room(new LineToWreck());
        CHECK.end("StructureTest");
    }

    private Element element() {
        return trees.getElement(getCurrentPath());
    }

    private boolean isOwn(Element element) {
        Element of = element;
        while (of != null && of.getEnclosingElement() != null && of.getEnclosingElement().getKind() != ElementKind.PACKAGE) {
            of = of.getEnclosingElement();
        }
        return of != null && of.toString().equals("LineToWreck");
    }

    private void holds(String rule, Object place, boolean is) {
        CHECK.due(rule + ": " + place, is ? 1 : 0, 1);
    }

    // ---- rules 2 and 5: classes, fields

    @Override
    public Void visitClass(ClassTree tree, String method) {
        boolean inside = getCurrentPath().getParentPath().getLeaf() instanceof ClassTree;
        Set<javax.lang.model.element.Modifier> modifiers = tree.getModifiers().getFlags();
        holds("rule 2, a class inside is static, and stands in no method", tree.getSimpleName(),
                !inside || method.isEmpty() && modifiers.contains(javax.lang.model.element.Modifier.STATIC));
        holds("rule 2, no class extends another one of the library", tree.getSimpleName(),
                tree.getExtendsClause() == null && tree.getImplementsClause().isEmpty());
        return super.visitClass(tree, method);
    }

    @Override
    public Void visitVariable(VariableTree tree, String method) {
        Element variable = element();
        TypeMirror type = variable.asType();
        holds("rule 3, a type of the few that are used", tree, isPlain(type));
        if (variable.getKind() == ElementKind.FIELD && variable.getModifiers()
                .contains(javax.lang.model.element.Modifier.STATIC)) {
            holds("rule 5, a static field is a final number", tree, type.getKind().isPrimitive()
                    && variable.getModifiers().contains(javax.lang.model.element.Modifier.FINAL));
        }
        return super.visitVariable(tree, method);
    }

    private boolean isPlain(TypeMirror type) {
        String name = type.toString();
        return Set.of("int", "long", "boolean", "int[]", "long[]").contains(name) || name.startsWith("LineToWreck.");
    }

    // ---- rules 3, 7 and 10: what stands in a method

    @Override
    public Void visitArrayType(ArrayTypeTree tree, String method) {
        holds("rule 3, a row of one dimension", tree, tree.getType().getKind() == Tree.Kind.PRIMITIVE_TYPE);
        return super.visitArrayType(tree, method);
    }

    @Override
    public Void visitBinary(BinaryTree tree, String method) {
        TypeMirror type = trees.getTypeMirror(getCurrentPath());
        holds("rules 3 and 10, reckoned in int, long and boolean", tree, type.getKind() == TypeKind.INT
                || type.getKind() == TypeKind.LONG || type.getKind() == TypeKind.BOOLEAN);
        return super.visitBinary(tree, method);
    }

    @Override
    public Void visitTypeCast(TypeCastTree tree, String method) {
        holds("rule 6, a cast of a number alone", tree, tree.getType().getKind() == Tree.Kind.PRIMITIVE_TYPE);
        return super.visitTypeCast(tree, method);
    }

    // ---- rule 9: loops

    @Override
    public Void visitForLoop(ForLoopTree tree, String method) {
        holds("rule 9, a loop has a counter, a bound and a step", tree, tree.getInitializer().size() == 1
                && tree.getCondition() != null && tree.getUpdate().size() == 1);
        return super.visitForLoop(tree, method);
    }

    @Override
    public Void visitEnhancedForLoop(EnhancedForLoopTree tree, String method) {
        TypeMirror over = trees.getTypeMirror(new TreePath(getCurrentPath(), tree.getExpression()));
        holds("rule 12, no loop makes an iterator", tree, over.getKind() == TypeKind.ARRAY);
        return super.visitEnhancedForLoop(tree, method);
    }

    // ---- rule 12: what is made

    @Override
    public Void visitNewClass(NewClassTree tree, String method) {
        holds("rules 4 and 12, only own objects, made in constructors", tree, isMaking(method)
                && tree.getClassBody() == null && isOwn(element().getEnclosingElement()));
        return super.visitNewClass(tree, method);
    }

    @Override
    public Void visitNewArray(NewArrayTree tree, String method) {
        holds("rule 12, rows are made in constructors", tree, isMaking(method));
        return super.visitNewArray(tree, method);
    }

    /** Fields are made as the constructor runs, and have no method around them. */
    private boolean isMaking(String method) {
        return method.isEmpty() || method.contains("<init>");
    }

    // ---- rules 4, 8 and 11: who calls whom

    @Override
    public Void visitMethod(MethodTree tree, String method) {
        String name = nameOf((ExecutableElement) element());
        calls.putIfAbsent(name, new TreeSet<>());
        return super.visitMethod(tree, name);
    }

    @Override
    public Void visitMethodInvocation(MethodInvocationTree tree, String method) {
        ExecutableElement called = (ExecutableElement) element();
        if (isOwn(called)) {
            calls.get(method).add(nameOf(called));
        } else if (!tree.toString().equals("super()")) {
            holds("rule 4, no library but what is listed", tree,
                    LIBRARY.contains(called.getEnclosingElement() + "." + called.getSimpleName()));
        }
        holds("rule 12, a constructor calls no method of its own", tree, !method.contains("<init>")
                || tree.toString().equals("super()"));
        return super.visitMethodInvocation(tree, method);
    }

    private static String nameOf(ExecutableElement method) {
        return method.getEnclosingElement() + "." + method.getSimpleName() + method.getParameters().stream()
                .map(parameter -> parameter.asType().toString()).toList();
    }

    private void depths() {
        holds("methods are found", calls.size(), calls.size() > 29);
        for (String method : calls.keySet()) {
            Deque<String> open = new ArrayDeque<>();
            CHECK.due("rules 8 and 11, calls from " + method + " are open, 8 at most",
                    Math.max(depth(method, open), DEEPEST), DEEPEST);
        }
    }

    /** How many calls are open at once, its own with them; no method is open twice. */
    private int depth(String method, Deque<String> open) {
        if (open.contains(method)) {
            holds("rule 8, no method comes back to itself", method, false);
            return 0;
        }
        open.push(method);
        int deepest = 0;
        for (String called : calls.get(method)) {
            deepest = Math.max(deepest, depth(called, open));
        }
        open.pop();
        return deepest + 1;
    }

    // ---- the room of a run

    /** No call makes anything: so what one object holds is all that a run takes. */
    private static void room(Object whole) throws ReflectiveOperationException {
        Deque<Object> open = new ArrayDeque<>(List.of(whole));
        int objects = 0;
        int elements = 0;
        while (!open.isEmpty()) {
            Object x = open.pop();
            objects++;
            if (x.getClass().isArray()) {
                elements += Array.getLength(x);
                continue;
            }
            for (Field field : x.getClass().getDeclaredFields()) {
                if (!Modifier.isStatic(field.getModifiers())) {
                    elements++;
                    field.setAccessible(true);
                    if (!field.getType().isPrimitive()) {
                        open.push(field.get(x));
                    }
                }
            }
        }
        CHECK.due("objects and rows of one LineToWreck, 100 at most", Math.max(objects, 100), 100);
        CHECK.due("their fields and elements, 1000 at most", Math.max(elements, 1000), 1000);
    }
}
