import com.sun.source.tree.BinaryTree;
import com.sun.source.tree.ClassTree;
import com.sun.source.tree.CompilationUnitTree;
import com.sun.source.tree.DoWhileLoopTree;
import com.sun.source.tree.ExpressionTree;
import com.sun.source.tree.ForLoopTree;
import com.sun.source.tree.MethodInvocationTree;
import com.sun.source.tree.MethodTree;
import com.sun.source.tree.NewClassTree;
import com.sun.source.tree.Tree;
import com.sun.source.tree.VariableTree;
import com.sun.source.tree.WhileLoopTree;
import com.sun.source.util.JavacTask;
import com.sun.source.util.TreePathScanner;
import com.sun.source.util.Trees;
import java.io.IOException;
import java.nio.file.Path;
import java.util.ArrayList;
import java.util.HashMap;
import java.util.LinkedHashSet;
import java.util.List;
import java.util.Map;
import java.util.Set;
import javax.lang.model.element.Element;
import javax.lang.model.element.ExecutableElement;
import javax.lang.model.element.Modifier;
import javax.lang.model.element.TypeElement;
import javax.lang.model.type.ArrayType;
import javax.lang.model.type.TypeKind;
import javax.lang.model.type.TypeMirror;
import javax.tools.JavaCompiler;
import javax.tools.StandardJavaFileManager;
import javax.tools.ToolProvider;

/**
 * What the compiler's own reading of the file can tell of LANGUAGE.md: its types, library, loops, lengths of methods,
 * and how deep calls go (rules 3 to 5, 9 to 11). Run from the project's folder.
 */
public final class LanguageTest extends TreePathScanner<Void, ExecutableElement> {
    private static final int MOST_DEEP = 8, MOST_LINES = 60;

    /** All of the library that rule 4 lists and the class has use for. */
    private static final Set<String> LIBRARY = Set.of("java.lang.String.length", "java.lang.String.charAt",
        "java.lang.Integer.bitCount", "java.lang.Integer.numberOfTrailingZeros",
        "java.lang.Integer.numberOfLeadingZeros", "java.lang.Math.abs", "java.lang.Math.max", "java.lang.Math.min",
        "java.lang.System.arraycopy", "java.util.Arrays.fill", "java.lang.Object.<init>");

    /** One by super runs that method itself; another one may run a method that overrides it. */
    private record Call(ExecutableElement method, boolean isBySuper) {
    }

    private static int wrong = 0;

    private final Trees trees;
    private final CompilationUnitTree unit;
    private final JavacTask task;
    private final Map<ExecutableElement, Set<Call>> calls = new HashMap<>();
    private final List<TypeElement> classes = new ArrayList<>();

    private LanguageTest(JavacTask task, CompilationUnitTree unit) {
        this.task = task;
        this.trees = Trees.instance(task);
        this.unit = unit;
    }

    public static void main(String[] args) throws IOException {
        JavaCompiler compiler = ToolProvider.getSystemJavaCompiler();
        try (StandardJavaFileManager files = compiler.getStandardFileManager(null, null, null)) {
            JavacTask task = (JavacTask) compiler.getTask(null, files, null, List.of("-proc:none"), null,
                files.getJavaFileObjects(Path.of("src/main/java/ShadowSchool.java")));
            CompilationUnitTree unit = task.parse().iterator().next();
            task.analyze();
            LanguageTest test = new LanguageTest(task, unit);
            test.scan(unit, null);
            test.depths();
        }
        System.out.println(wrong == 0 ? "the language is as due" : wrong + " things are not as due");
        if (wrong != 0) {
            System.exit(1);
        }
    }

    private void due(boolean isSo, Tree where, String what) {
        if (!isSo) {
            wrong++;
            System.out.println("line " + line(trees.getSourcePositions().getStartPosition(unit, where)) + ": " + what);
        }
    }

    private long line(long position) {
        return unit.getLineMap().getLineNumber(position);
    }

    private Element elementOf(Tree tree) {
        return trees.getElement(trees.getPath(unit, tree));
    }

    private static String nameOf(Element e) {
        return e.getEnclosingElement() + "." + e.getSimpleName();
    }

    private static boolean isOwn(Element e) {
        return e.getEnclosingElement().toString().startsWith("ShadowSchool");
    }

    @Override
    public Void visitClass(ClassTree tree, ExecutableElement in) {
        due(in == null, tree, "rule 2: a class within a method");
        classes.add((TypeElement) elementOf(tree));
        return super.visitClass(tree, in);
    }

    @Override
    public Void visitMethod(MethodTree tree, ExecutableElement in) {
        ExecutableElement method = (ExecutableElement) elementOf(tree);
        calls.put(method, new LinkedHashSet<>());
        long first = line(trees.getSourcePositions().getStartPosition(unit, tree));
        long last = line(Math.max(0, trees.getSourcePositions().getEndPosition(unit, tree)));
        due(last - first < MOST_LINES, tree, "rule 11: " + method + " has " + (last - first + 1) + " lines");
        due(tree.getParameters().size() <= 7, tree, "rule 11: " + method + " takes more than seven");
        return super.visitMethod(tree, method);
    }

    @Override
    public Void visitVariable(VariableTree tree, ExecutableElement in) {
        Element e = elementOf(tree);
        boolean isStatic = e.getModifiers().contains(Modifier.STATIC);
        due(isAllowed(e.asType()), tree, "rule 3: a " + e.asType());
        due(!isStatic || e.getModifiers().contains(Modifier.FINAL), tree, "rule 5: " + e + " is static, but not final");
        return super.visitVariable(tree, in);
    }

    private static boolean isAllowed(TypeMirror type) {
        if (type.getKind() != TypeKind.ARRAY) {
            return isPlain(type);
        }
        TypeMirror part = ((ArrayType) type).getComponentType();
        if (part.getKind() != TypeKind.ARRAY) {
            return isPlain(part) && !part.toString().equals("java.lang.String");
        }
        return ((ArrayType) part).getComponentType().getKind().isPrimitive();
    }

    private static boolean isPlain(TypeMirror type) {
        return type.getKind().isPrimitive() || type.toString().startsWith("ShadowSchool")
            || type.toString().equals("java.lang.String");
    }

    @Override
    public Void visitMethodInvocation(MethodInvocationTree tree, ExecutableElement in) {
        boolean isBySuper = tree.getMethodSelect().toString().startsWith("super.");
        addCall(tree, in, new Call((ExecutableElement) elementOf(tree), isBySuper));
        return super.visitMethodInvocation(tree, in);
    }

    @Override
    public Void visitNewClass(NewClassTree tree, ExecutableElement in) {
        due(tree.getClassBody() == null, tree, "rule 2: a class without a name");
        addCall(tree, in, new Call((ExecutableElement) elementOf(tree), false));
        return super.visitNewClass(tree, in);
    }

    private void addCall(Tree tree, ExecutableElement in, Call call) {
        String name = nameOf(call.method());
        due(isOwn(call.method()) || LIBRARY.contains(name), tree, "rule 4: calls " + name);
        if (in != null) {
            calls.get(in).add(call);
        }
    }

    @Override
    public Void visitBinary(BinaryTree tree, ExecutableElement in) {
        boolean isOfTexts = isText(tree.getLeftOperand()) || isText(tree.getRightOperand());
        due(!isOfTexts, tree, "rules 6, 10: Strings joined or compared by a sign");
        return super.visitBinary(tree, in);
    }

    private boolean isText(ExpressionTree tree) {
        TypeMirror type = trees.getTypeMirror(trees.getPath(unit, tree));
        return type != null && type.toString().equals("java.lang.String");
    }

    @Override
    public Void visitForLoop(ForLoopTree tree, ExecutableElement in) {
        due(hasEnd(tree.getCondition()), tree, "rule 9: a loop without an end");
        return super.visitForLoop(tree, in);
    }

    @Override
    public Void visitWhileLoop(WhileLoopTree tree, ExecutableElement in) {
        due(hasEnd(tree.getCondition()), tree, "rule 9: a loop without an end");
        return super.visitWhileLoop(tree, in);
    }

    @Override
    public Void visitDoWhileLoop(DoWhileLoopTree tree, ExecutableElement in) {
        due(hasEnd(tree.getCondition()), tree, "rule 9: a loop without an end");
        return super.visitDoWhileLoop(tree, in);
    }

    /** Some counter stands against a bound. */
    private static boolean hasEnd(ExpressionTree condition) {
        return condition != null && condition.toString().matches(".*\\w (<|<=|>|>=) .*");
    }

    /** No chain of calls from the face on, in which no method comes twice, is longer than rule 11 lets it be. */
    private void depths() {
        for (ExecutableElement method : calls.keySet()) {
            if (method.getModifiers().contains(Modifier.PUBLIC)) {
                List<ExecutableElement> chain = longestFrom(method, new ArrayList<>());
                due(chain.size() <= MOST_DEEP, trees.getTree(method), "rule 11: " + chain.size() + " deep: " + chain);
            }
        }
    }

    /** The library's own calls count as one each, as its code is not the file's. */
    private List<ExecutableElement> longestFrom(ExecutableElement method, List<ExecutableElement> open) {
        open.add(method);
        List<ExecutableElement> longest = new ArrayList<>(open);
        for (Call call : calls.getOrDefault(method, Set.of())) {
            for (ExecutableElement next : whatMayRun(call)) {
                List<ExecutableElement> chain = open.contains(next) ? List.of() : longestFrom(next, open);
                longest = chain.size() > longest.size() ? chain : longest;
            }
        }
        open.remove(open.size() - 1);
        return longest;
    }

    private List<ExecutableElement> whatMayRun(Call call) {
        List<ExecutableElement> all = new ArrayList<>(List.of(call.method()));
        for (TypeElement type : call.isBySuper() ? List.<TypeElement>of() : classes) {
            for (Element e : type.getEnclosedElements()) {
                if (e instanceof ExecutableElement other
                        && task.getElements().overrides(other, call.method(), type)) {
                    all.add(other);
                }
            }
        }
        return all;
    }
}
