import com.sun.source.tree.ClassTree;
import com.sun.source.tree.CompilationUnitTree;
import com.sun.source.tree.LambdaExpressionTree;
import com.sun.source.tree.MemberReferenceTree;
import com.sun.source.tree.MethodInvocationTree;
import com.sun.source.tree.MethodTree;
import com.sun.source.tree.NewArrayTree;
import com.sun.source.tree.NewClassTree;
import com.sun.source.tree.VariableTree;
import com.sun.source.util.JavacTask;
import com.sun.source.util.TreePathScanner;
import com.sun.source.util.Trees;
import java.nio.file.Path;
import java.util.HashMap;
import java.util.HashSet;
import java.util.List;
import java.util.Map;
import java.util.Set;
import java.util.TreeSet;
import javax.lang.model.element.Element;
import javax.lang.model.element.ElementKind;
import javax.lang.model.element.ExecutableElement;
import javax.lang.model.element.Modifier;
import javax.lang.model.element.VariableElement;
import javax.tools.JavaCompiler;
import javax.tools.StandardJavaFileManager;
import javax.tools.ToolProvider;

/** What of ../shared/LANGUAGE.md the compiler's tree of the source shows; run from the project's own folder. */
public final class LanguageTreeTest extends TreePathScanner<Void, Void> {
    private static final Check check = new Check();
    /** Of what rule 4 lists, what the class has use for. */
    private static final Set<String> LIBRARY = Set.of("java.lang.Math.max", "java.lang.Math.min",
            "java.lang.String.length", "java.lang.String.charAt", "java.lang.System.arraycopy");
    private static final Set<String> TYPES_OF_CONSTANTS = Set.of("int", "long", "boolean", "char", "java.lang.String");
    private static final int DEEPEST = 8;

    private final Trees trees;
    private final Map<Element, Set<Element>> calls = new HashMap<>();
    private Element current;

    private LanguageTreeTest(Trees trees) {
        this.trees = trees;
    }

    public static void main(String[] args) throws Exception {
        JavaCompiler compiler = ToolProvider.getSystemJavaCompiler();
        try (StandardJavaFileManager files = compiler.getStandardFileManager(null, null, null)) {
            JavacTask task = (JavacTask) compiler.getTask(null, files, null, List.of("-proc:none"), null,
                    files.getJavaFileObjects(Path.of("src/main/java/HeavyChains.java")));
            Iterable<? extends CompilationUnitTree> units = task.parse();
            task.analyze();
            LanguageTreeTest test = new LanguageTreeTest(Trees.instance(task));
            for (CompilationUnitTree unit : units) {
                check.due("one class stands outside", unit.getTypeDecls().size(), 1);
                test.scan(unit, null);
            }
            test.namesOfMethods();
            test.depthOfCalls();
        }
        check.end();
    }

    private void allow(String what, boolean allowed) {
        check.due(what + (allowed ? "" : " is not allowed"), allowed ? 1 : 0, 1);
    }

    private Element here() {
        return trees.getElement(getCurrentPath());
    }

    @Override
    public Void visitClass(ClassTree tree, Void nothing) {
        Element one = here();
        boolean outer = one.getEnclosingElement().getKind() == ElementKind.PACKAGE;
        allow("1, 2: " + one, outer || one.getModifiers().contains(Modifier.STATIC)
                && !one.getModifiers().contains(Modifier.PUBLIC));
        return super.visitClass(tree, nothing);
    }

    @Override
    public Void visitMethod(MethodTree tree, Void nothing) {
        Element around = current;
        current = here();
        calls.put(current, new HashSet<>());
        allow("11: parameters of " + current, tree.getParameters().size() <= 7);
        super.visitMethod(tree, nothing);
        current = around;
        return null;
    }

    @Override
    public Void visitVariable(VariableTree tree, Void nothing) {
        VariableElement one = (VariableElement) here();
        if (one.getModifiers().contains(Modifier.STATIC)) {
            allow("5: static " + one, one.getModifiers().contains(Modifier.FINAL)
                    && TYPES_OF_CONSTANTS.contains(one.asType().toString()) && one.getConstantValue() != null);
        }
        return super.visitVariable(tree, nothing);
    }

    @Override
    public Void visitMethodInvocation(MethodInvocationTree tree, Void nothing) {
        Element called = here();
        String owner = called.getEnclosingElement().toString();
        if (owner.startsWith("HeavyChains")) {
            if (current != null) {
                calls.get(current).add(called);
            }
        } else if (called.getKind() == ElementKind.METHOD) {
            allow("4: " + owner + "." + called.getSimpleName(), LIBRARY.contains(owner + "." + called.getSimpleName()));
        }
        return super.visitMethodInvocation(tree, nothing);
    }

    @Override
    public Void visitNewClass(NewClassTree tree, Void nothing) {
        made("12: " + tree);
        allow("2: a class of its own in " + tree, tree.getClassBody() == null);
        allow("4: " + tree, here().getEnclosingElement().toString().startsWith("HeavyChains"));
        return super.visitNewClass(tree, nothing);
    }

    @Override
    public Void visitNewArray(NewArrayTree tree, Void nothing) {
        made("12: " + tree);
        return super.visitNewArray(tree, nothing);
    }

    /** All calls share one room, so rows and objects are made with the object alone. */
    private void made(String what) {
        allow(what + " in " + current, current == null || current.getKind() == ElementKind.CONSTRUCTOR);
    }

    @Override
    public Void visitLambdaExpression(LambdaExpressionTree tree, Void nothing) {
        allow("2: " + tree, false);
        return null;
    }

    @Override
    public Void visitMemberReference(MemberReferenceTree tree, Void nothing) {
        allow("2: " + tree, false);
        return null;
    }

    private void namesOfMethods() {
        Set<String> face = new TreeSet<>();
        for (Element method : calls.keySet()) {
            if (isMethod(method, Modifier.PUBLIC)) {
                face.add(method.getSimpleName().toString());
            }
        }
        for (Element method : calls.keySet()) {
            if (isMethod(method, Modifier.PRIVATE)) {
                allow("1: the name of " + method, !face.contains(method.getSimpleName().toString()));
            }
        }
    }

    /** Constructors all bear one name in the tree. */
    private static boolean isMethod(Element one, Modifier modifier) {
        return one.getKind() == ElementKind.METHOD && one.getModifiers().contains(modifier);
    }

    /** The class has no recursion; a circle of calls would go deeper than any bound. */
    private void depthOfCalls() {
        for (Element method : calls.keySet()) {
            int depth = depth((ExecutableElement) method, 1);
            allow("8, 11: calls " + depth + " deep from " + method, depth <= DEEPEST);
        }
    }

    private int depth(ExecutableElement method, int level) {
        int deepest = level;
        for (Element called : calls.getOrDefault(method, Set.of())) {
            if (level <= DEEPEST) {
                deepest = Math.max(deepest, depth((ExecutableElement) called, level + 1));
            }
        }
        return deepest;
    }
}
